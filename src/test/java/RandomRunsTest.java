import java.lang.reflect.Method;
import java.lang.reflect.Modifier;
import java.util.ArrayList;
import java.util.Arrays;
import java.util.List;
import java.util.Random;

/** Runs of up to 512 calls by chance (the same each time) on the class and on Slow: all answers must be the same. */
public final class RandomRunsTest {
    private static final int RUNS = 3000;
    private static final int[] EXTREMES = {Integer.MIN_VALUE, Integer.MAX_VALUE, -15, -1000, 1000, 999, -999, 20, 21, 255, 256};
    private static final String LETTERS = "s12345()~[]*e0";

    private static final Due due = new Due("RandomRunsTest");
    private static final List<Method> methods = new ArrayList<>();
    private static Random random;
    private static SwapTables x;
    private static Slow slow;
    private static int run;
    private static int calls;

    public static void main(String[] args) throws Exception {
        for (Method method : SwapTables.class.getDeclaredMethods()) {
            if (Modifier.isPublic(method.getModifiers())) {
                methods.add(method);
            }
        }
        methods.sort((a, b) -> a.getName().compareTo(b.getName()));
        for (run = 0; run < RUNS; run++) {
            random = new Random(run);
            x = new SwapTables();
            slow = new Slow();
            calls = 0;
            while (calls < 310) {
                someCalls();
            }
            lookAround();
        }
        due.end();
    }

    private static void someCalls() throws Exception {
        switch (random.nextInt(12)) {
            case 0:
                if (random.nextInt(4) == 0) {
                    call("shape", Lead.SHAPES[random.nextInt(Lead.SHAPES.length)]);
                }
                break;
            case 1:
                text();
                break;
            case 2:
                fillingRow();
                break;
            case 3:
                swapRow();
                break;
            case 4:
                vectors();
                break;
            case 5:
                call("swap", random.nextInt(4), 1 + random.nextInt(5));
                break;
            default:
                Method method = methods.get(random.nextInt(methods.size()));
                if (!method.getName().equals("shape") || random.nextInt(4) == 0) {
                    call(method.getName(), arguments(method.getParameterCount()));
                }
        }
    }

    private static int[] arguments(int many) {
        int[] made = new int[many];
        for (int i = 0; i < many; i++) {
            int sort = random.nextInt(40);
            made[i] = sort == 0 ? EXTREMES[random.nextInt(EXTREMES.length)]
                : sort == 1 ? random.nextInt() : sort < 10 ? random.nextInt(10) - 2 : random.nextInt(4);
        }
        return made;
    }

    private static void text() throws Exception {
        StringBuilder text = new StringBuilder();
        part(text, 0);
        while (random.nextInt(2) == 0) {
            text.append('*');
            part(text, 0);
        }
        if (random.nextInt(2) == 0) {
            int at = random.nextInt(text.length() + 1);
            char letter = LETTERS.charAt(random.nextInt(LETTERS.length()));
            switch (random.nextInt(3)) {
                case 0: text.insert(at, letter); break;
                case 1: text.setLength(at); break;
                default: text.setCharAt(Math.min(at, text.length() - 1), letter);
            }
        }
        if (text.length() > 90) {
            text.setLength(90);
        }
        if (random.nextInt(4) != 0) {
            call("wipe");
        }
        for (int i = 0; i < text.length(); i++) {
            call("feed", text.charAt(i));
        }
        call("read", random.nextInt(20) == 0 ? 4 : random.nextInt(4));
        call("count", 2);
        for (int i = 0; i < 6; i++) {
            call("why", i, 0);
            call("why", i, 1);
        }
    }

    private static void part(StringBuilder text, int open) {
        switch (random.nextInt(open < 4 ? 7 : 5)) {
            case 0: text.append('e'); break;
            case 1: text.append('s').append(figure()); break;
            case 2:
            case 3:
                text.append('(').append(figure()).append(figure());
                while (random.nextInt(3) == 0) {
                    text.append(figure());
                }
                text.append(')');
                break;
            case 4:
                text.append('~');
                part(text, open);
                break;
            default:
                text.append('[');
                part(text, open + 1);
                while (random.nextInt(2) == 0) {
                    text.append('*');
                    part(text, open + 1);
                }
                text.append(']');
        }
    }

    private static int figure() {
        return 1 + random.nextInt(random.nextInt(4) == 0 ? 5 : (int) Math.max(1, slow.of(0) - 1));
    }

    private static void fillingRow() throws Exception {
        int n = (int) slow.of(0);
        int shelf = random.nextInt(4);
        List<int[]> orders = Slow.World.of(List.of(n)).orders;
        int[] order = orders.get(random.nextInt(orders.size()));
        call("row", shelf, n + random.nextInt(3) - random.nextInt(10) / 9);
        for (int i = 0; i < n; i++) {
            call("put", shelf, i, order[i] + 1 + (random.nextInt(40) == 0 ? 1 : 0));
        }
        call("which", shelf);
        for (int j = 0; j < 6; j++) {
            call("straight", shelf, j);
        }
    }

    private static void swapRow() throws Exception {
        int shelf = random.nextInt(4);
        int many = random.nextInt(7);
        int swaps = (int) Math.max(1, slow.of(0) - 1);
        call("row", shelf, many);
        for (int i = 0; i < many; i++) {
            call("put", shelf, i, random.nextInt(15) == 0 ? random.nextInt(7) - 1 : 1 + random.nextInt(swaps));
        }
        call("judge", shelf);
    }

    private static void vectors() throws Exception {
        int shelf = random.nextInt(4);
        call("vector", shelf, random.nextInt((int) slow.of(2)));
        for (int k = 0; k < 6; k++) {
            call("give", shelf, k, random.nextInt(random.nextBoolean() ? 11 : 1003) * (random.nextBoolean() ? 1 : -1));
        }
        call("acts", shelf, random.nextInt(4));
        call("inner", shelf, random.nextInt(4), 0);
        call("inner", shelf, shelf, 1);
    }

    /** All that can be seen of the state. */
    private static void lookAround() throws Exception {
        for (int what = 0; what < 5; what++) {
            call("of", what);
            call("count", what);
        }
        for (int shelf = 0; shelf < 4; shelf++) {
            for (int i = 0; i < 6; i++) {
                call("takes", shelf, i);
                call("has", shelf, i);
                call("get", shelf, i);
            }
        }
    }

    private static void call(String name, int... arguments) throws Exception {
        calls++;
        Class<?>[] types = new Class<?>[arguments.length];
        Arrays.fill(types, int.class);
        Object[] boxed = Arrays.stream(arguments).boxed().toArray();
        Method slowly = Slow.class.getDeclaredMethod(name, types);
        long got = ((Number) SwapTables.class.getMethod(name, types).invoke(x, boxed)).longValue();
        long want = (Long) slowly.invoke(slow, boxed);
        due.is("run " + run + ", call " + calls + " " + name + Arrays.toString(arguments), got, want);
    }
}
