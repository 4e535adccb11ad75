/**
 * A RuleNet whose texts go in and out as Strings. Its calls are counted, since the document speaks of the first
 * 512 alone: a test that needs more is wrong itself.
 */
final class Probe {
    private static final int MOST_CALLS = 512;

    private final RuleNet net = new RuleNet();
    private int calls = 0;

    /** The object, for one call. */
    RuleNet x() {
        calls++;
        if (calls > MOST_CALLS) {
            throw new IllegalStateException("a test makes more than " + MOST_CALLS + " calls");
        }
        return net;
    }

    /** KINDS 1 under 0, 2 under 1, 3 under 0, 4 under 3 (without HEADS); HEADS a to h as told below. */
    static Probe usual() {
        Probe p = new Probe();
        int[] under = {0, 1, 0, 3};
        for (int kind : under) {
            p.x().kind(kind);
        }
        p.x().head(0, 0, false); // a
        p.x().head(1, 1, false); // b
        p.x().head(2, 2, false); // c
        p.x().head(3, 2, true);  // d
        p.x().head(0, 3, true);  // e
        p.x().head(0, 4, true);  // f
        p.x().head(1, 4, false); // g
        p.x().head(0, 0, true);  // h
        return p;
    }

    /** Puts a text behind THE TAPE, where it must have room. */
    Probe put(String text) {
        int length = 0;
        for (int i = 0; i < text.length(); i += 20) {
            int[] five = new int[5];
            for (int k = 0; k < 20; k++) {
                five[k / 4] = five[k / 4] << 8 | (i + k < text.length() ? text.charAt(i + k) & 255 : 0);
            }
            length = x().feed(five[0], five[1], five[2], five[3], five[4]);
        }
        if (text.length() % 20 != 0) {
            x().cut(length - 20 + text.length() % 20);
        }
        return this;
    }

    int pattern(int rank, String text) {
        return put(text).x().pattern(rank);
    }

    int tree(String text) {
        return put(text).x().tree();
    }

    int change(int node, String text) {
        return put(text).x().change(node);
    }

    /** As pattern(), tree(), change(), where the text must be taken. */
    Probe withPattern(int rank, String text) {
        return taken(pattern(rank, text), text);
    }

    Probe withTree(String text) {
        return taken(tree(text), text);
    }

    Probe withChange(int node, String text) {
        return taken(change(node, text), text);
    }

    private Probe taken(int answer, String text) {
        if (answer < 0) {
            throw new IllegalStateException("a test's own text is not taken: " + text);
        }
        return this;
    }

    /** Makes of a node a chain of b's over a number, so many nodes in all. */
    Probe withChain(int node, int nodes, String number) {
        withChange(node, number);
        int end = node;
        for (int left = nodes - 1; left > 0;) {
            int more = Math.min(12, left);
            withChange(end, "b(".repeat(more) + number + ")".repeat(more));
            end += more;
            left -= more;
        }
        return this;
    }

    String out() {
        StringBuilder s = new StringBuilder();
        for (int b = x().out(0); b != RuleNet.NONE; b = x().out(s.length())) {
            s.append((char) b);
        }
        return s.toString();
    }

    /**
     * All that calls tell of the object. What they do not tell (the bytes of THE TAPE, of which KIND and HEAD is
     * the next) is told by using it up at the end, so this is the last that is done with an object.
     */
    String all(boolean withPlace) {
        StringBuilder s = new StringBuilder();
        for (int what = 0; what < 9; what++) {
            say(s, "count " + what, x().count(what));
        }
        if (withPlace) {
            say(s, "place", x().place());
        }
        kinds(s);
        s.append("out ").append(out()).append('\n');
        say(s, "looks", x().looks(0));
        say(s, "plain looks", x().looks(1));
        nodes(s);
        asked(s);
        patterns(s);
        say(s, "tape as a tree", x().tree());
        say(s, "its place", x().place());
        x().printNode(0);
        s.append("tree ").append(out()).append('\n');
        say(s, "a kind", x().kind(0));
        say(s, "a head", x().head(0, 0, false));
        return s.toString();
    }

    private static void say(StringBuilder s, String what, long answer) {
        s.append(what).append(" = ").append(answer).append('\n');
    }

    private void kinds(StringBuilder s) {
        int kinds = x().count(0);
        for (int a = 1; a < kinds; a++) {
            say(s, "kind " + a + " under " + (a - 1), x().isUnder(a, a - 1));
            say(s, "kind " + a + " under 1", x().isUnder(a, 1));
        }
    }

    private void nodes(StringBuilder s) {
        int nodes = Math.min(x().count(3), 8);
        for (int n = 0; n < nodes; n++) {
            for (int what = 0; what < 5; what++) {
                say(s, "node " + n + " " + what, x().node(n, what));
            }
        }
    }

    private void asked(StringBuilder s) {
        int first = x().fit(0);
        say(s, "fit 0", first);
        for (int i = 1; first >= 0 && i < 4; i++) {
            say(s, "fit " + i, x().fit(i));
        }
    }

    private void patterns(StringBuilder s) {
        boolean few = x().count(2) <= 6;
        for (int p = 0; p < 40; p++) {
            int rank = x().told(p, 0);
            say(s, "rank " + p, rank);
            if (rank < 0 || !few && p % 13 != 0) {
                continue;
            }
            say(s, "nodes " + p, x().told(p, 1));
            say(s, "fillings " + p, x().fillings(p));
            say(s, "filling " + p, x().filling(p, 0, 1));
            say(s, "tries " + p, x().asked(p, 0));
            say(s, "found " + p, x().found(p, 1));
            x().print(p);
            s.append("printed ").append(out()).append('\n');
        }
    }
}
