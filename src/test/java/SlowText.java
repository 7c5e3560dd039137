import java.util.ArrayList;
import java.util.List;

/** A TEXT by recursive descent: a tree of PARTS first, which is worked out only when the text has no FAULT. */
final class SlowText {
    /** TROUBLES as pairs of sort and number. */
    static final class Refused extends RuntimeException {
        private static final long serialVersionUID = 1;
        final transient List<int[]> troubles;

        Refused(List<int[]> open, int sort, int place) {
            troubles = new ArrayList<>(open);
            troubles.add(new int[] {sort, place});
        }
    }

    interface Node {
        int[] order(Slow.World world);
    }

    private final String text;
    private int at = 0;

    SlowText(String text) {
        this.text = text;
    }

    Node parse() {
        Node whole = text(List.of());
        if (at < text.length()) {
            throw new Refused(List.of(), 1, at);
        }
        return whole;
    }

    private boolean sees(String letters) {
        return at < text.length() && letters.indexOf(text.charAt(at)) >= 0;
    }

    private char take(String letters, List<int[]> open) {
        if (!sees(letters)) {
            throw new Refused(open, 1, at);
        }
        return text.charAt(at++);
    }

    private static List<int[]> with(List<int[]> open, int sort, int place) {
        List<int[]> more = new ArrayList<>(open);
        more.add(new int[] {sort, place});
        return more;
    }

    private Node text(List<int[]> open) {
        List<Node> parts = new ArrayList<>();
        parts.add(part(open));
        while (sees("*")) {
            at++;
            parts.add(part(open));
        }
        return world -> {
            int[] made = world.identity();
            for (Node part : parts) {
                made = Slow.World.product(made, part.order(world));
            }
            return made;
        };
    }

    private Node part(List<int[]> open) {
        boolean mayOpen = open.stream().filter(one -> one[0] == 2).count() < 3;
        int place = at;
        switch (take(mayOpen ? "s(~e[" : "s(~e", open)) {
            case 's': return swap(open);
            case '(': return cycle(open);
            case '~':
                Node turned = part(with(open, 3, place));
                return world -> Slow.World.turned(turned.order(world));
            case '[':
                List<int[]> within = with(open, 2, place);
                Node text = text(within);
                take("]", within);
                return text;
            default: return Slow.World::identity;
        }
    }

    private Node swap(List<int[]> open) {
        int place = at;
        int k = take("12345", open) - '0';
        return world -> {
            if (k >= world.n) {
                throw new Refused(open, 4, place);
            }
            return world.swapOf(k);
        };
    }

    private Node cycle(List<int[]> open) {
        int begin = at;
        take("12345", open);
        take("12345", open);
        while (sees("12345")) {
            at++;
        }
        String figures = text.substring(begin, at);
        take(")", open);
        return world -> {
            for (int i = 0; i < figures.length(); i++) {
                if (figures.charAt(i) - '0' > world.n || figures.indexOf(figures.charAt(i)) < i) {
                    throw new Refused(open, 4, begin + i);
                }
            }
            int[] made = world.identity();
            for (int i = 0; i < figures.length(); i++) {
                made[figures.charAt(i) - '1'] = figures.charAt((i + 1) % figures.length()) - '1';
            }
            return made;
        };
    }
}
