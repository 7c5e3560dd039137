import java.io.IOException;
import java.io.UncheckedIOException;
import java.nio.file.Files;
import java.nio.file.Path;
import java.util.Arrays;

/** Counts and prints the answers that are not as due. */
final class Due {
    private static final Path DOCUMENT = Path.of("../shared/DOC.md");

    private final String name;
    private String sentence = "";
    private int wrong = 0;
    private int looked = 0;

    Due(String name) {
        this.name = name;
    }

    void is(String call, long got, long want) {
        look(call, got == want, Long.toString(got), Long.toString(want));
    }

    /** Texts of several lines; of two that are not the same the first line that is another is told. */
    void same(String call, String got, String want) {
        String[] gotLines = got.split("\n");
        String[] wantLines = want.split("\n");
        int at = Math.max(0, Arrays.mismatch(gotLines, wantLines));
        look(call, got.equals(want), lineAt(gotLines, at), lineAt(wantLines, at));
    }

    private static String lineAt(String[] lines, int at) {
        return at < lines.length ? "'" + lines[at] + "' (line " + at + ")" : "no more lines";
    }

    void holds(String what, boolean holds) {
        look(what, holds, "no", "yes");
    }

    private void look(String call, boolean isDue, String got, String want) {
        looked++;
        if (!isDue) {
            wrong++;
            if (wrong <= 50) {
                System.out.println(name + ": " + sentence + call + " answered " + got + ", due is " + want);
            }
        }
    }

    /** Names the sentence of the document by which the answers from here on are due; it must stand there so. */
    void sentence(String words) {
        sentence = "";
        holds("the document says: " + words, Document.TEXT.contains(words));
        sentence = "\"" + words + "\": ";
    }

    void end() {
        System.out.println(name + ": " + looked + " answers, " + wrong + " not as due");
        if (wrong != 0) {
            System.exit(1);
        }
    }

    /** Where the REGISTER takes 1, 2, .. and that this is all. */
    void order(String call, SwapTables x, int r, int... targets) {
        for (int i = 0; i < targets.length; i++) {
            is(call + ": takes " + (i + 1), x.takes(r, i + 1), targets[i]);
        }
        is(call + ": takes no more", x.takes(r, targets.length + 1), SwapTables.BAD);
    }

    /** What REGISTER 0 answers to a text; THE TAPE is empty behind it. */
    void text(SwapTables x, String text, int want) {
        Lead.feed(x, text);
        is("read " + text, x.read(0), want);
        is("the tape behind " + text, x.count(1), 0);
    }

    /** All of WHY, as pairs of sort and number. */
    void troubles(String call, SwapTables x, int... pairs) {
        is(call + ": how many", x.count(2), pairs.length / 2);
        for (int i = 0; i < pairs.length; i++) {
            is(call + ": why " + i / 2 + " " + i % 2, x.why(i / 2, i % 2), pairs[i]);
        }
        is(call + ": why behind the last", x.why(pairs.length / 2, 0), SwapTables.NOT);
    }

    /** The document, each gap as one blank. */
    private static final class Document {
        static final String TEXT = read();

        private static String read() {
            try {
                return Files.readString(DOCUMENT).replaceAll("\\s+", " ");
            } catch (IOException e) {
                throw new UncheckedIOException(e);
            }
        }
    }
}
