import java.util.Arrays;

/** THE TAPE, TEXTS, their FAULTS, what is WRONG and WHY (promises 32 to 35) at the edges that the document names. */
public final class TextEdgesTest {
    private static final int NOT = SwapTables.NOT;
    private static final int FULL = SwapTables.FULL;
    private static final int BAD = SwapTables.BAD;

    private static final Due due = new Due("TextEdgesTest");

    public static void main(String[] args) {
        tapeOfEighty();
        bytesOfTheTape();
        emptyTape();
        emptyBehindEachRead();
        onePartOrMore();
        figuresOfSwaps();
        figuresOfCycles();
        cyclesGoRound();
        turnedParts();
        brackets();
        threeBracketsAtOnce();
        staying();
        noBlanks();
        noOtherByte();
        faultAtEachPlace();
        endsTooEarly();
        endsTooEarlyAtEighty();
        wrongSwaps();
        wrongNumbers();
        wrongTwice();
        manyFigures();
        theFirstWrong();
        faultFirst();
        whyOfNone();
        whyOfOneAlone();
        whyOfBrackets();
        whyOfTurned();
        whyBehindWholeParts();
        whyOfAll();
        whyOfEighty();
        whyStays();
        eachReadBeginsAnew();
        orderAndLength();
        due.end();
    }

    private static SwapTables of(int n) {
        return Lead.shape(n);
    }

    /** A text with a FAULT of its own place; all of WHY is told. */
    private static void fault(String text, int place, int... open) {
        SwapTables x = of(5);
        due.text(x, text, -100 - place);
        due.troubles(text, x, with(open, 1, place));
    }

    private static void wrong(int n, String text, int place, int... open) {
        SwapTables x = of(n);
        due.text(x, text, NOT);
        due.troubles(text + " of " + n, x, with(open, 4, place));
    }

    private static int[] with(int[] open, int sort, int place) {
        int[] all = Arrays.copyOf(open, open.length + 2);
        all[open.length] = sort;
        all[open.length + 1] = place;
        return all;
    }

    // ---- THE TAPE

    private static void tapeOfEighty() {
        due.sentence("THE TAPE holds 0 .. 80 bytes 32 .. 126.");
        SwapTables x = of(3);
        for (int i = 1; i <= 80; i++) {
            due.is("feed", x.feed(i % 3 == 0 ? '*' : i % 3 == 1 ? 's' : '1'), i);
            due.is("bytes", x.count(1), i);
        }
        due.is("81", x.feed('*'), FULL);
        due.is("and again", x.feed('e'), FULL);
        due.is("80 are read", x.read(0), 1);
        due.is("then the first", x.feed('e'), 1);
        due.is("wiped", x.wipe(), 1);
        for (int i = 1; i <= 80; i++) {
            x.feed('e');
        }
        due.is("80 are wiped", x.wipe(), 80);
        due.is("then there is room", x.feed('e'), 1);
    }

    private static void bytesOfTheTape() {
        due.sentence("A byte comes behind THE TAPE's: how many it has. BAD; FULL: it has 80.");
        SwapTables x = of(3);
        int taken = 0;
        for (int letter = -3; letter < 300; letter++) {
            boolean isByte = letter >= 32 && letter <= 126;
            taken = isByte ? taken % 80 + 1 : taken;
            due.is("byte " + letter, x.feed(letter), isByte ? taken : BAD);
            if (taken == 80) {
                due.is("wiped", x.wipe(), 80);
                taken = 0;
            }
        }
        due.is("95 bytes", x.count(1), 15);
    }

    private static void emptyTape() {
        due.sentence("THE TAPE is empty: how many it had.");
        SwapTables x = of(3);
        due.is("none", x.wipe(), 0);
        x.feed(126);
        due.is("one", x.wipe(), 1);
        due.is("none again", x.wipe(), 0);
        due.is("what was wiped is not read", x.read(0), -100);
        due.is("a wipe leaves why", x.wipe() + x.count(2), 1);
    }

    private static void emptyBehindEachRead() {
        due.sentence("THE TAPE is empty behind each call that reads it, by a FAULT and by what is WRONG, too (BAD of the"
            + " REGISTER: it stays).");
        SwapTables x = of(3);
        String[] texts = {"s1", "s1*", "s5", "", "x"};
        int[] answers = {1, -103, NOT, -100, -100};
        for (int i = 0; i < texts.length; i++) {
            Lead.feed(x, texts[i]);
            for (int r : new int[] {-1, 4}) {
                due.is("no register", x.read(r), BAD);
                due.is("it stays", x.count(1), texts[i].length());
            }
            due.is("read " + texts[i], x.read(3), answers[i]);
            due.is("it is empty", x.count(1), 0);
            due.is("nothing to wipe", x.wipe(), 0);
            due.is("read again", x.read(3), -100);
        }
    }

    // ---- What is a TEXT

    private static void onePartOrMore() {
        due.sentence("A TEXT: PARTS, one or more, parted by *:");
        due.text(of(5), "e", 0);
        due.text(of(5), "s4*s4", 0);
        due.text(of(5), "s1*s2*s3*s4", 4);
        fault("", 0);
        fault("*", 0);
        fault("*e", 0);
        fault("e*", 2);
        fault("e**e", 2);
        fault("ee", 1);
        fault("s1s2", 2);
        fault("(12)(34)", 4);
        fault("e~e", 1);
        fault("e[e]", 1);
    }

    private static void figuresOfSwaps() {
        due.sentence("s and a figure (a SWAP);");
        for (int k = 1; k <= 4; k++) {
            due.text(of(5), "s" + k, 1);
        }
        due.text(of(2), "s1", 1);
        fault("s", 1);
        fault("s*", 1);
        fault("s12", 2);
        fault("S1", 0);
        due.sentence("FAULT: the first byte with which no such text goes on (figures 1 .. 5)");
        fault("s0", 1);
        fault("s6", 1);
        fault("s/", 1);
        fault("s:", 1);
        wrong(5, "s5", 1);
    }

    private static void figuresOfCycles() {
        due.sentence("( and two or more figures and ) (a cycle: each goes to the next one, the last to the first);");
        due.text(of(5), "(12)", 1);
        due.text(of(5), "(12345)", 4);
        fault("(", 1);
        fault("()", 1);
        fault("(1", 2);
        fault("(1)", 2);
        fault("(12", 3);
        fault("(12345", 6);
        fault("(12*", 3);
        fault("(1 2)", 2);
        fault("(1,2)", 2);
        fault("(0", 1);
        fault("(6", 1);
        fault("(10", 2);
        fault("(16", 2);
        fault("(120", 3);
        fault("(126", 3);
        fault(")", 0);
        fault("12)", 0);
        fault("(12))", 4);
        fault("((12)", 1);
        fault("(e)", 1);
    }

    private static void cyclesGoRound() {
        due.sentence("(a cycle: each goes to the next one, the last to the first)");
        int[][] goes = {{5, 1, 2, 3, 4}, {2, 3, 4, 5, 1}, {4, 5, 2, 3, 1}, {5, 2, 3, 4, 1}, {1, 2, 3, 5, 4}};
        String[] texts = {"(15432)", "(12345)", "(14325)", "(51)", "(45)"};
        for (int i = 0; i < texts.length; i++) {
            due.order(texts[i], Lead.read(of(5), 0, texts[i]), 0, goes[i]);
        }
        SwapTables x = Lead.read(of(5), 0, "(123)");
        Lead.read(x, 1, "(231)");
        Lead.read(x, 2, "(312)");
        for (int r = 0; r < 3; r++) {
            due.order("begun elsewhere it is the same", x, r, 2, 3, 1, 4, 5);
        }
        due.order("of two of two", Lead.read(of(2), 0, "(21)"), 0, 2, 1);
    }

    private static void turnedParts() {
        due.sentence("~ and a PART (TURNED);");
        due.order("a part", Lead.read(of(3), 0, "~(123)"), 0, 3, 1, 2);
        due.order("not the one behind it", Lead.read(of(3), 0, "~(123)*(123)"), 0, 1, 2, 3);
        due.order("nor the one ahead", Lead.read(of(3), 0, "(123)*~e"), 0, 2, 3, 1);
        due.sentence("A ~ may stand behind a ~;");
        due.order("once", Lead.read(of(3), 0, "~(123)"), 0, 3, 1, 2);
        due.order("twice", Lead.read(of(3), 0, "~~(123)"), 0, 2, 3, 1);
        due.order("79 times", Lead.read(of(3), 0, "~".repeat(75) + "(123)"), 0, 3, 1, 2);
        due.sentence("TURNED: the ORDER that takes back.");
        due.order("the part alone", Lead.read(of(3), 0, "~(123)*(12)"), 0, 1, 3, 2);
        due.order("all that stands in a bracket", Lead.read(of(3), 0, "~[(123)*(12)]"), 0, 3, 2, 1);
        due.text(of(3), "~e", 0);
        due.text(of(3), "~s2", 1);
        due.order("79 and e", Lead.read(of(3), 0, "~".repeat(79) + "e"), 0, 1, 2, 3);
        fault("~", 1, 3, 0);
        fault("~~", 2, 3, 0, 3, 1);
        fault("~*e", 1, 3, 0);
        fault("~]", 1, 3, 0);
        fault("~)", 1, 3, 0);
        fault("e~", 1);
        fault("s~1", 1);
        fault("(~12)", 1);
    }

    private static void brackets() {
        due.sentence("[ and a TEXT and ] (at most 3 are open at once);");
        due.text(of(5), "[e]", 0);
        due.text(of(5), "[s1*s2]", 2);
        due.text(of(5), "[s1]*[s2]", 2);
        due.order("the product within is taken", Lead.read(of(3), 0, "s1*[s2*s1]*s2"), 0, 3, 1, 2);
        fault("[", 1, 2, 0);
        fault("[]", 1, 2, 0);
        fault("[e", 2, 2, 0);
        fault("[e*", 3, 2, 0);
        fault("[e*]", 3, 2, 0);
        fault("[e]]", 3);
        fault("]", 0);
        fault("e]", 1);
        fault("[e)", 2, 2, 0);
        fault("[e][e]", 3);
        fault("[s]", 2, 2, 0);
        fault("[~]", 2, 2, 0, 3, 1);
    }

    private static void threeBracketsAtOnce() {
        due.sentence("(at most 3 are open at once)");
        due.text(of(5), "[[[s1]]]", 1);
        due.text(of(5), "[[[s1]*[s2]]*[[s3]*[s4]]]*[[[e]]]", 4);
        due.text(of(5), "~[~[~[~s1]]]", 1);
        fault("[[[[", 3, 2, 0, 2, 1, 2, 2);
        fault("[[[[e]]]]", 3, 2, 0, 2, 1, 2, 2);
        fault("[[[e*[", 5, 2, 0, 2, 1, 2, 2);
        fault("[[[e]*[[", 7, 2, 0, 2, 1, 2, 6);
        fault("[[[~[", 4, 2, 0, 2, 1, 2, 2, 3, 3);
        fault("~[~[~[~[", 7, 3, 0, 2, 1, 3, 2, 2, 3, 3, 4, 2, 5, 3, 6);
        fault("[e]*[[[[", 7, 2, 4, 2, 5, 2, 6);
    }

    private static void staying() {
        due.sentence("e (each number stays).");
        for (int n = 1; n <= 5; n++) {
            due.text(of(n), "e", 0);
            due.text(of(n), "e*~e*[e]", 0);
        }
        fault("e1", 1);
        fault("E", 0);
    }

    private static void noBlanks() {
        due.sentence("No blanks.");
        fault(" ", 0);
        fault(" e", 0);
        fault("e ", 1);
        fault("s 1", 1);
        fault("s1 ", 2);
        fault("s1 *s2", 2);
        fault("s1* s2", 3);
        fault("( 12)", 1);
        fault("(1 2)", 2);
        fault("(12 )", 3);
        fault("~ e", 1, 3, 0);
        fault("[ e]", 1, 2, 0);
        fault("[e ]", 2, 2, 0);
    }

    /** Behind each beginning each byte but those that go on is the FAULT. */
    private static void noOtherByte() {
        due.sentence("FAULT: the first byte with which no such text goes on");
        String[] begun = {"", "s", "s1", "(", "(1", "(12", "~", "[", "[e", "e*", "[[[", "[[[e"};
        String[] goesOn = {"s(~[e", "12345", "*", "12345", "12345", "12345)", "s(~[e", "s(~[e", "*]", "s(~[e", "s(~e", "*]"};
        for (int i = 0; i < begun.length; i++) {
            for (char letter = 32; letter <= 126; letter++) {
                boolean isFault = goesOn[i].indexOf(letter) < 0;
                SwapTables x = of(5);
                Lead.feed(x, begun[i] + letter);
                int answer = x.read(0);
                boolean told = answer == -100 - begun[i].length();
                due.holds(begun[i] + letter + " answered " + answer, told == isFault);
            }
        }
    }

    // ---- FAULTS

    private static void faultAtEachPlace() {
        due.sentence("-100 less it.");
        for (int place = 0; place < 80; place++) {
            String before = "e*".repeat(place / 2) + (place % 2 == 1 ? "e" : "");
            fault(before + "x" + "e".repeat(79 - place), place);
        }
    }

    private static void endsTooEarly() {
        due.sentence("or the length, if it ends too early: -100 less it.");
        fault("", 0);
        fault("e*s2*", 5);
        fault("e*s", 3);
        fault("e*(", 3);
        fault("e*(1", 4);
        fault("e*(12", 5);
        fault("e*~", 3, 3, 2);
        fault("e*[", 3, 2, 2);
        fault("e*[e", 4, 2, 2);
        fault("e*[[e]", 6, 2, 2);
    }

    private static void endsTooEarlyAtEighty() {
        due.sentence("or the length, if it ends too early: -100 less it.");
        fault("e*".repeat(40), 80);
        fault("e*".repeat(39) + "[e", 80, 2, 78);
        fault("(" + "1".repeat(79), 80);
        due.text(of(5), "(" + "1".repeat(78) + ")", NOT);
        due.text(of(5), "e*".repeat(38) + "(12)", 1);
    }

    // ---- WRONG

    private static void wrongSwaps() {
        due.sentence("A figure that is no SWAP, a number above N, or one that a cycle has already: that is WRONG: NOT;");
        for (int n = 1; n <= 5; n++) {
            for (int k = 1; k <= 5; k++) {
                if (k < n) {
                    due.text(of(n), "s" + k, 1);
                } else {
                    wrong(n, "s" + k, 1);
                    wrong(n, "e*~[s" + k + "]", 5, 3, 2, 2, 3);
                }
            }
        }
    }

    private static void wrongNumbers() {
        due.sentence("a number above N");
        for (int n = 1; n <= 4; n++) {
            wrong(n, "(" + (n + 1) + "1)", 1);
            wrong(n, "(1" + (n + 1) + ")", 2);
            wrong(n, "(15)", 2);
        }
        due.text(of(2), "(12)", 1);
        due.text(of(4), "(14)", 5);
        due.text(of(5), "(51)", 7);
        wrong(1, "(12)", 2);
        wrong(1, "(21)", 1);
    }

    private static void wrongTwice() {
        due.sentence("A cycle's figures: of one that has a number twice the second one is WRONG.");
        wrong(5, "(11)", 2);
        wrong(5, "(121)", 3);
        wrong(5, "(122)", 3);
        wrong(5, "(12321)", 4);
        wrong(5, "(55)", 2);
        wrong(1, "(11)", 2);
        wrong(3, "(12)*(33)", 7);
        due.text(of(3), "(12)*(12)", 0);
        due.text(of(3), "(12)*s1*(21)", 1);
        wrong(3, "(144)", 2);
        wrong(3, "(114)", 2);
    }

    private static void manyFigures() {
        due.sentence("( and two or more figures and )");
        wrong(5, "(123451)", 6);
        wrong(5, "(" + "12345".repeat(15) + ")", 6);
        wrong(4, "(12345)", 5);
        fault("(" + "12345".repeat(15) + "*", 76);
    }

    private static void theFirstWrong() {
        due.sentence("What is WRONG first, as it is worked out from the left on, is told.");
        wrong(3, "s3*s4", 1);
        wrong(3, "s1*(11)*s5", 5);
        wrong(3, "~[s1*(14)]*(44)", 7, 3, 0, 2, 1);
        wrong(3, "s2*[(12)*[s5]]*s4", 11, 2, 3, 2, 9);
        wrong(3, "(4455)", 1);
        wrong(3, "~(12)*~s3", 8, 3, 6);
    }

    private static void faultFirst() {
        due.sentence("the whole text is looked at for a FAULT first.");
        fault("s5*", 3);
        fault("s5x", 2);
        fault("(11", 3);
        fault("~[s5", 4, 3, 0, 2, 1);
        fault("[s5]*~(44)*[", 12, 2, 11);
        fault("s5*" + "e*".repeat(38) + "!", 79);
    }

    // ---- WHY

    private static void whyOfNone() {
        due.sentence("WHY tells of the latest read() that was refused (none at first)");
        SwapTables x = of(3);
        due.troubles("a new object", x);
        due.text(x, "s1", 1);
        x.read(4);
        due.troubles("a read that is not refused, and BAD", x);
    }

    private static void whyOfOneAlone() {
        due.sentence("last one of sort 1 with the FAULT, or of sort 4 with the place of the figure that is WRONG.");
        fault("x", 0);
        fault("e*e*x", 4);
        wrong(3, "s3", 1);
        wrong(3, "s1*(123)*(3124)", 13);
    }

    private static void whyOfBrackets() {
        due.sentence("one of sort 2 with the place of its [ for each that is open there, the outermost first;");
        fault("[e*[e*[e*", 9, 2, 0, 2, 3, 2, 6);
        fault("[e]*[[e]*[x", 10, 2, 4, 2, 9);
        wrong(3, "[e*[e*[e*s3]]]", 10, 2, 0, 2, 3, 2, 6);
        wrong(3, "[[[e]]]*[s4]", 10, 2, 8);
    }

    private static void whyOfTurned() {
        due.sentence("By ~ and [ the TROUBLES stand as they are opened, one within the other.");
        fault("~x", 1, 3, 0);
        fault("~s", 2, 3, 0);
        fault("~s6", 2, 3, 0);
        fault("~(1)", 3, 3, 0);
        fault("~[~[~[~", 7, 3, 0, 2, 1, 3, 2, 2, 3, 3, 4, 2, 5, 3, 6);
        fault("[~~[x", 4, 2, 0, 3, 1, 3, 2, 2, 3);
        wrong(3, "~s3", 2, 3, 0);
        wrong(3, "~(1232)", 5, 3, 0);
        wrong(3, "[~[s1*~~(14)]]", 10, 2, 0, 3, 1, 2, 2, 3, 6, 3, 7);
    }

    private static void whyBehindWholeParts() {
        due.sentence("of troubles behind a PART that is whole, neither its ~ nor its bracket is open any more.");
        fault("~ex", 2);
        fault("~s1x", 3);
        fault("~(12)x", 5);
        fault("~[e]x", 4);
        fault("~~[e]x", 5);
        fault("~[e]*x", 5);
        fault("[~ex", 3, 2, 0);
        fault("[~[e]x", 5, 2, 0);
        fault("~[~[e]x", 6, 3, 0, 2, 1);
        fault("~[~[~s1]", 8, 3, 0, 2, 1);
        wrong(3, "~s1*s3", 5);
        wrong(3, "~[~s1*s3]", 7, 3, 0, 2, 1);
        wrong(3, "~[s1]*[e]*~s4", 12, 3, 10);
    }

    private static void whyOfAll() {
        due.sentence("TROUBLES, each but the last with a CAUSE behind it:");
        SwapTables x = of(5);
        due.text(x, "[~[e*~~[s1*(12)*(1233)]]]", NOT);
        due.troubles("six", x, 2, 0, 3, 1, 2, 2, 3, 5, 3, 6, 2, 7, 4, 20);
        due.text(x, "x", -100);
        due.troubles("none of those before", x, 1, 0);
    }

    private static void whyOfEighty() {
        due.sentence("one of sort 3 with the place of its ~ for each PART turned that it stands in, in the same row, as they"
            + " begin;");
        SwapTables x = of(5);
        due.text(x, "~".repeat(80), -180);
        due.is("81", x.count(2), 81);
        for (int i = 0; i < 80; i++) {
            due.is("sort of " + i, x.why(i, 0), 3);
            due.is("place of " + i, x.why(i, 1), i);
        }
        due.is("the last one's sort", x.why(80, 0), 1);
        due.is("the last one's place", x.why(80, 1), 80);
        due.is("no more", x.why(81, 0), NOT);
        x = of(3);
        due.text(x, "~".repeat(77) + "s3", NOT);
        due.is("78", x.count(2), 78);
        due.is("the wrong one", x.why(77, 1), 78);
    }

    private static void whyStays() {
        due.sentence("WHY stays till the next read() that is refused (not by BAD).");
        SwapTables x = of(3);
        due.text(x, "[s3]", NOT);
        due.text(x, "~(123)", 2);
        due.troubles("behind one that is not refused", x, 2, 0, 4, 2);
        Lead.feed(x, "~x");
        x.read(-1);
        x.read(4);
        due.troubles("behind BAD", x, 2, 0, 4, 2);
        x.wipe();
        x.back();
        x.image();
        x.restore();
        Lead.toShape(x, 5);
        x.wipe();
        due.troubles("behind others", x, 2, 0, 4, 2);
        due.text(x, "", -100);
        due.troubles("behind the next", x, 1, 0);
    }

    /** What was begun, open or WRONG in a text that was refused is nothing to the next one. */
    private static void eachReadBeginsAnew() {
        due.sentence("-100 less the FAULT; NOT: WRONG.");
        SwapTables x = of(3);
        String[] texts = {"[[[s1*(123)*", "[[[e]]]", "(12)", "(1)", "(23", "s1", "s3", "s2*s1", "~", "(123)", "~~[s", "2",
            "e]"};
        int[] answers = {-112, 0, 1, -102, -103, 1, NOT, 2, -101, 2, -104, -100, -101};
        for (int i = 0; i < texts.length; i++) {
            due.text(x, texts[i], answers[i]);
        }
        due.troubles("of the last alone", x, 1, 1);
        due.order("what was read last", x, 0, 2, 3, 1);
    }

    private static void orderAndLength() {
        due.sentence("It is worked out as the product in this order.");
        due.order("s1*s2", Lead.read(of(3), 0, "s1*s2"), 0, 2, 3, 1);
        due.order("s2*s1", Lead.read(of(3), 0, "s2*s1"), 0, 3, 1, 2);
        due.order("as many as 80 bytes hold", Lead.read(of(3), 0, "s1*s2*".repeat(13) + "s1"), 0, 3, 2, 1);
        due.text(of(5), "s1*s2*s1*s3*s2*s1*s4*s3*s2*s1", 10);
        due.text(of(1), "[~e]", 0);
        SwapTables x = of(5);
        Lead.feed(x, "(15)");
        due.is("into the last register", x.read(3), 7);
        due.is("into no other", x.count(4), 7);
    }
}
