/**
 * Every TEXT of up to eight of these LETTERS, against Slow. Where one has a FAULT at a byte, no longer one that begins so
 * is looked at, for it has the same.
 */
public final class EveryTextTest {
    private static final String LETTERS = "s(~[e)]*1236 ";
    private static final int LONGEST = 8;
    /** An object is used for at most 512 calls. */
    private static final int MOST_CALLS = 480;

    private static final Due due = new Due("EveryTextTest");
    private static int[] shape;
    private static SwapTables x;
    private static Slow slow;
    private static int calls;

    public static void main(String[] args) {
        for (int[] one : new int[][] {{2, 0, 0, 0, 0}, {2, 1, 0, 0, 0}}) {
            shape = one;
            calls = MOST_CALLS;
            textsFrom("");
        }
        due.end();
    }

    private static void textsFrom(String begun) {
        long answer = read(begun);
        boolean goesOn = answer >= SwapTables.NOT || answer == -100 - begun.length();
        for (int i = 0; i < LETTERS.length() && goesOn && begun.length() < LONGEST; i++) {
            textsFrom(begun + LETTERS.charAt(i));
        }
    }

    private static long read(String text) {
        if (calls >= MOST_CALLS) {
            x = Lead.shape(shape);
            slow = new Slow();
            slow.shape(shape[0], shape[1], shape[2], shape[3], shape[4]);
            calls = 1;
        }
        for (int i = 0; i < text.length(); i++) {
            due.is("feed of " + text, x.feed(text.charAt(i)), slow.feed(text.charAt(i)));
        }
        long answer = slow.read(0);
        due.is("read " + text, x.read(0), answer);
        long troubles = slow.count(2);
        due.is("troubles of " + text, x.count(2), troubles);
        for (int i = 0; i < troubles; i++) {
            due.is("sort " + i + " of " + text, x.why(i, 0), slow.why(i, 0));
            due.is("place " + i + " of " + text, x.why(i, 1), slow.why(i, 1));
        }
        due.is("takes of " + text, x.takes(0, 1), slow.takes(0, 1));
        calls += text.length() + 3 + 2 * (int) troubles;
        return answer;
    }
}
