import java.io.IOException;
import java.net.URL;
import java.net.URLClassLoader;
import java.nio.file.Files;
import java.nio.file.Path;
import java.util.Set;
import java.util.TreeSet;
import java.util.regex.Matcher;
import java.util.regex.Pattern;
import java.util.stream.Stream;
import javax.tools.ToolProvider;

/** The uses and the commands that README.md shows are such as work. */
public final class ReadmeTest {
    private static final Path BUILD = Path.of("build/Readme");
    private static final Path TESTS = Path.of("src/test/java");
    /** A call with its answer as a comment behind it. */
    private static final Pattern ANSWERED = Pattern.compile("x\\.(.*);\\s+// (-?\\d+|VOID)(:.*)?");

    private static final Due due = new Due("ReadmeTest");

    /** What the shown uses, made a class, hand their answers to. */
    public interface Answers {
        void is(String call, long got, long want);
    }

    public static void main(String[] args) throws Exception {
        String readme = Files.readString(Path.of("README.md"));
        shownUses(readme);
        testsAreNamed(readme);
        commands(readme.substring(readme.indexOf("## Tests")));
        pathsAreThere(readme);
        due.end();
    }

    private static void shownUses(String readme) throws Exception {
        Matcher block = Pattern.compile("(?s)```java\n(.*?)```").matcher(readme);
        due.holds("a use is shown", block.find());
        StringBuilder source = new StringBuilder("public final class Readme {\n");
        source.append("public static void uses(ReadmeTest.Answers due) {\n");
        int answered = 0;
        for (String line : block.group(1).split("\n")) {
            Matcher call = ANSWERED.matcher(line);
            if (call.matches()) {
                answered++;
                String want = call.group(2).equals("VOID") ? "SwapTables.VOID" : call.group(2);
                line = "due.is(\"" + call.group(1).replace("\"", "\\\"") + "\", x." + call.group(1) + ", " + want + ");";
            }
            source.append(line).append('\n');
        }
        due.holds("its answers are shown, too", answered > 20);
        due.holds("a use is shown once", !block.find());
        run(source.append("}\n}\n").toString());
    }

    private static void run(String source) throws Exception {
        Files.createDirectories(BUILD);
        Path file = BUILD.resolve("Readme.java");
        Files.writeString(file, source);
        String classes = System.getProperty("java.class.path");
        int refused = ToolProvider.getSystemJavaCompiler().run(null, null, null,
            "-cp", classes, "-d", BUILD.toString(), file.toString());
        due.is("what javac says of the shown uses", refused, 0);
        if (refused == 0) {
            try (URLClassLoader loader = new URLClassLoader(new URL[] {BUILD.toUri().toURL()})) {
                Answers answers = due::is;
                loader.loadClass("Readme").getMethod("uses", Answers.class).invoke(null, answers);
            }
        }
    }

    private static void testsAreNamed(String readme) throws IOException {
        Set<String> named = new TreeSet<>();
        Matcher name = Pattern.compile("`([A-Z]\\w*)`").matcher(readme.substring(readme.indexOf("## Tests")));
        while (name.find()) {
            named.add(name.group(1));
        }
        Set<String> there = new TreeSet<>();
        try (Stream<Path> files = Files.list(TESTS)) {
            files.forEach(file -> there.add(file.getFileName().toString().replace(".java", "")));
        }
        due.holds("named are " + named + ", there are " + there, named.equals(there));
    }

    private static void commands(String tests) {
        Matcher command = Pattern.compile("(?m)^    (\\S+)$").matcher(tests);
        int found = 0;
        while (command.find()) {
            found++;
            due.holds(command.group(1) + " can be run", Files.isExecutable(Path.of(command.group(1))));
        }
        due.is("commands", found, 1);
    }

    private static void pathsAreThere(String readme) {
        Matcher path = Pattern.compile("`((?:src|\\.\\./shared|\\.ci)/[\\w./]*)`").matcher(readme);
        while (path.find()) {
            due.holds(path.group(1) + " is there", Files.exists(Path.of(path.group(1))));
        }
    }
}
