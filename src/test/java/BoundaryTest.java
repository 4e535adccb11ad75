/**
 * The boundary cases of promises 1 to 30, each with the number of its promise: the last value that is taken and the
 * first that is refused, the empty and the full, which refusal comes first, and that a refused call changes nothing.
 * What a text's FAULTS are is FaultTest's.
 */
public final class BoundaryTest {
    private static final int NONE = RuleNet.NONE, UNKNOWN = RuleNet.UNKNOWN, OUTSIDE = RuleNet.OUTSIDE,
        STATE = RuleNet.STATE, FULL = RuleNet.FULL;
    private static final int LOW = Integer.MIN_VALUE, HIGH = Integer.MAX_VALUE;
    private static final int BLANKS = 0x20202020;

    private BoundaryTest() {
    }

    public static void main(String[] args) {
        promise1();
        promise2();
        promise3();
        promise4();
        promise5();
        promise5Bytes();
        promise6();
        promise7();
        promise7Full();
        promise7Anew();
        promise8();
        promise9();
        promise10();
        promise12();
        promise12Full();
        promise13();
        promise14();
        promise15();
        promise16();
        promise16Spans();
        promise16Orders();
        promise16Nodes();
        promise17();
        promise17Stays();
        promise18();
        promise19();
        promise20();
        promise20Spent();
        promise20Many();
        promise20ManyOrSpent();
        promise21();
        promise22();
        promise23();
        promise24();
        promise24Again();
        promise25();
        promise26();
        promise26Spans();
        promise26Kinds();
        promise27();
        promise28();
        promise29();
        promise30();
        promise30Long();
        Due.end();
    }

    // ---- helpers

    private interface Recipe {
        Probe make();
    }

    private interface Call {
        long on(RuleNet x);
    }

    /** A refusal: the answer that is due; then all that can be told is as on a like object without the call. */
    private static void refused(String what, Recipe recipe, long due, Call call) {
        Probe p = recipe.make();
        Due.is(what, call.on(p.x()), due);
        Due.text(what + ", what has changed", p.all(true), recipe.make().all(true));
    }

    /**
     * PATTERNS 0 c(?1,?2), 1 d(?1,?2) (not in THE NET), 2 c(?1,?1), 4 ..?1 (not in THE NET); 3 is free. No TREE;
     * a FAULT at 3, something in THE OUT and on THE TAPE.
     */
    private static Probe noTree() {
        Probe p = Probe.usual().withPattern(5, "c(?1,?2)").withPattern(3, "d(?1,?2)").withPattern(0, "c(?1,?1)");
        p.withPattern(9, "7").withPattern(2, "..?1");
        p.x().drop(3);
        p.tree("c(a;");
        p.x().print(1);
        return p.put(" b ( 77)");
    }

    private static Probe notAsked() {
        Probe p = noTree();
        p.x().cut(0);
        p.withTree("c(d(1,2),b(3))");
        p.tree("b(a;");
        return p.put(" b ( 77)");
    }

    private static Probe askedOnce() {
        Probe p = notAsked();
        p.x().ask();
        return p;
    }

    private static Probe fresh() {
        return new Probe();
    }

    private static Probe fullKinds() {
        Probe p = new Probe();
        for (int k = 1; k < 12; k++) {
            p.x().kind(k / 2);
        }
        return p;
    }

    private static Probe fullHeads() {
        Probe p = new Probe();
        p.x().kind(0);
        for (int h = 0; h < 20; h++) {
            p.x().head(h % 2, h % 5, h % 3 == 0);
        }
        return p;
    }

    private static Probe fullPatterns() {
        Probe p = Probe.usual();
        for (int k = 0; k < 40; k++) {
            p.withPattern(k, k % 2 == 0 ? "?1" : "..7");
        }
        p.withTree("c(7,8)");
        p.x().ask();
        return p.put("b(5)");
    }

    private static Probe tapeOf(int bytes) {
        return new Probe().put(("5" + " ".repeat(bytes)).substring(0, bytes));
    }

    // ---- kinds, heads, texts

    private static void promise1() {
        int[] counts = {1, 0, 0, 0, 0, 0, 0, 0, 0};
        Probe p = fresh();
        for (int what = 0; what < counts.length; what++) {
            Due.is("1: count(" + what + ")", p.x().count(what), counts[what]);
        }
        Due.is("1: KIND 0 is there", p.x().isUnder(0, 0), 1);
        Due.is("1: KIND 0 alone", p.x().isUnder(0, 1), UNKNOWN);
        Due.is("1: place", p.x().place(), NONE);
        Due.is("1: the out is empty", p.x().out(0), NONE);
        refused("1: drop", BoundaryTest::fresh, UNKNOWN, x -> x.drop(0));
        refused("1: told", BoundaryTest::fresh, UNKNOWN, x -> x.told(0, 0));
        refused("1: node", BoundaryTest::fresh, UNKNOWN, x -> x.node(0, 0));
        refused("1: alike", BoundaryTest::fresh, UNKNOWN, x -> x.alike(0, 0));
        refused("1: change", BoundaryTest::fresh, UNKNOWN, x -> x.change(0));
        refused("1: ask", BoundaryTest::fresh, STATE, RuleNet::ask);
        refused("1: fit", BoundaryTest::fresh, STATE, x -> x.fit(0));
        refused("1: fillings", BoundaryTest::fresh, UNKNOWN, x -> x.fillings(0));
        refused("1: filling", BoundaryTest::fresh, UNKNOWN, x -> x.filling(0, 0, 0));
        refused("1: asked", BoundaryTest::fresh, UNKNOWN, x -> x.asked(0, 0));
        refused("1: at", BoundaryTest::fresh, UNKNOWN, x -> x.at(0, 0));
        refused("1: found", BoundaryTest::fresh, UNKNOWN, x -> x.found(0, 0));
        refused("1: looks", BoundaryTest::fresh, STATE, x -> x.looks(0));
        refused("1: plain looks", BoundaryTest::fresh, STATE, x -> x.looks(1));
        refused("1: parts", BoundaryTest::fresh, UNKNOWN, x -> x.parts(0, 0));
        refused("1: shared", BoundaryTest::fresh, UNKNOWN, x -> x.shared(0, 0));
        refused("1: clash", BoundaryTest::fresh, UNKNOWN, x -> x.clash(0, 0));
        refused("1: print", BoundaryTest::fresh, UNKNOWN, x -> x.print(0));
        refused("1: printNode", BoundaryTest::fresh, UNKNOWN, x -> x.printNode(0));
        refused("1: nothing comes back", BoundaryTest::fresh, 0, RuleNet::back);
        Due.is("1: the tape is empty", fresh().x().tree(), -11);
        Due.is("1: the tape is empty", fresh().x().pattern(0), -11);
        Due.is("1: no HEADS", fresh().tree("a"), -12);
    }

    private static void promise2() {
        int[] unknown = {LOW, -1, 1, 12, HIGH};
        for (int under : unknown) {
            refused("2: no such KIND " + under, BoundaryTest::fresh, UNKNOWN, x -> x.kind(under));
        }
        Probe p = fresh();
        for (int k = 1; k < 12; k++) {
            Due.is("2: the first that is not there", p.x().kind(k), UNKNOWN);
            Due.is("2: under the last that is there", p.x().kind(k - 1), k);
            Due.is("2: as many", p.x().count(0), k + 1);
        }
        for (int under = 0; under < 12; under++) {
            int one = under;
            refused("2: full, under " + one, BoundaryTest::fullKinds, FULL, x -> x.kind(one));
        }
        refused("2: UNKNOWN ahead of FULL", BoundaryTest::fullKinds, UNKNOWN, x -> x.kind(12));
        refused("2: UNKNOWN ahead of FULL", BoundaryTest::fullKinds, UNKNOWN, x -> x.kind(-1));
        Due.is("2: the last of the full", fullKinds().pattern(0, "?:11"), 0);
        Due.is("2: none behind it", fullKinds().pattern(0, "?:12"), -13);
    }

    private static void promise3() {
        Probe chain = fresh();
        for (int k = 1; k < 12; k++) {
            chain.x().kind(k - 1);
        }
        for (int a = 0; a < 12; a++) {
            for (int b = 0; b < 12; b++) {
                Due.is("3: in a row, " + a + " under " + b, chain.x().isUnder(a, b), a >= b ? 1 : 0);
            }
        }
        Probe star = fresh();
        for (int k = 1; k < 12; k++) {
            star.x().kind(0);
        }
        for (int a = 0; a < 12; a++) {
            for (int b = 0; b < 12; b++) {
                Due.is("3: all under 0, " + a + " under " + b, star.x().isUnder(a, b), a == b || b == 0 ? 1 : 0);
            }
        }
        int[] unknown = {LOW, -1, 5, 12, HIGH};
        for (int k : unknown) {
            refused("3: no such KIND " + k, BoundaryTest::askedOnce, UNKNOWN, x -> x.isUnder(k, 0));
            refused("3: not under " + k, BoundaryTest::askedOnce, UNKNOWN, x -> x.isUnder(0, k));
            refused("3: both " + k, BoundaryTest::askedOnce, UNKNOWN, x -> x.isUnder(k, k));
        }
        Due.is("3: the last that is there", askedOnce().x().isUnder(4, 4), 1);
        Due.is("3: none behind it", fullKinds().x().isUnder(12, 0), UNKNOWN);
    }

    private static void promise4() {
        int[] kinds = {LOW, -1, 5, HIGH};
        for (int kind : kinds) {
            refused("4: no such KIND " + kind, Probe::usual, UNKNOWN, x -> x.head(kind, 0, false));
            refused("4: UNKNOWN ahead of OUTSIDE", Probe::usual, UNKNOWN, x -> x.head(kind, 5, true));
        }
        Due.is("4: the last KIND", Probe.usual().x().head(4, 0, false), 8);
        int[] parts = {LOW, -1, 5, HIGH};
        for (int n : parts) {
            refused("4: PARTS " + n, Probe::usual, OUTSIDE, x -> x.head(0, n, false));
            refused("4: OUTSIDE ahead of FULL", BoundaryTest::fullHeads, OUTSIDE, x -> x.head(0, n, true));
        }
        refused("4: UNKNOWN ahead of all", BoundaryTest::fullHeads, UNKNOWN, x -> x.head(2, 5, false));
        refused("4: UNKNOWN ahead of FULL", BoundaryTest::fullHeads, UNKNOWN, x -> x.head(2, 0, false));
        refused("4: full", BoundaryTest::fullHeads, FULL, x -> x.head(0, 0, false));
        refused("4: full", BoundaryTest::fullHeads, FULL, x -> x.head(1, 4, true));
        headsOfAllParts();
        Probe p = fresh();
        for (int h = 0; h < 20; h++) {
            Due.is("4: the next LETTER is none yet", p.tree("" + (char) ('a' + h)), -12);
            Due.is("4: a HEAD", p.x().head(0, 0, h == 7), h);
            Due.is("4: its LETTER", p.tree("" + (char) ('a' + h)), 1);
            Due.is("4: its number", p.x().node(0, 0), h);
        }
        Due.is("4: the 21st", p.x().head(0, 0, false), FULL);
        Due.is("4: u is none", p.tree("u"), -12);
    }

    private static void headsOfAllParts() {
        for (int parts = 0; parts <= 4; parts++) {
            Probe p = fresh();
            Due.is("4: PARTS " + parts, p.x().head(0, parts, false), 0);
            String fewer = "a" + (parts > 1 ? "(" + "1,".repeat(parts - 2) + "1)" : "");
            String right = "a" + (parts > 0 ? "(" + "1,".repeat(parts - 1) + "1)" : "");
            String more = "a(" + "1,".repeat(parts) + "1)";
            Due.is("4: so many PARTS " + parts, p.tree(right), parts + 1);
            Due.is("4: one more than " + parts, p.tree(more), -16);
            Due.is("4: one fewer than " + parts, p.tree(fewer), parts == 0 ? 1 : -16);
        }
    }

    private static void promise5() {
        Probe p = fresh();
        for (int n = 20; n <= 1000; n += 20) {
            Due.is("5: behind the others", p.x().feed(BLANKS, BLANKS, BLANKS, BLANKS, BLANKS), n);
        }
        Due.is("5: full", p.x().feed(BLANKS, BLANKS, BLANKS, BLANKS, BLANKS), FULL);
        for (int bytes = 979; bytes <= 1000; bytes++) {
            int n = bytes;
            if (n <= 980) {
                Due.is("5: room for twenty behind " + n, tapeOf(n).x().feed(BLANKS, BLANKS, BLANKS, BLANKS, BLANKS),
                    n + 20);
            } else {
                refused("5: no room behind " + n, () -> tapeOf(n), FULL, x -> x.feed(1, 2, 3, 4, 5));
            }
        }
        p = tapeOf(980);
        p.x().feed(BLANKS, BLANKS, BLANKS, BLANKS, BLANKS + 1);
        Due.is("5: byte 999", p.x().tree(), -11);
        Due.is("5: byte 999", p.x().place(), 999);
        Due.is("5: empty then", p.x().feed(0, 0, 0, 0, 0), 20);
    }

    /** Each byte of a call by itself: all are blanks but one, at which the FAULT is. */
    private static void promise5Bytes() {
        int[] bytes = {0, 1, 9, 11, 13, 31, 33, 127, 128, 138, 160, 225, 255};
        for (int at = 0; at < 20; at++) {
            for (int b : bytes) {
                int[] five = {BLANKS, BLANKS, BLANKS, BLANKS, BLANKS};
                int shift = 24 - at % 4 * 8;
                five[at / 4] = five[at / 4] & ~(255 << shift) | b << shift;
                Probe p = fresh();
                Due.is("5: feed", p.x().feed(five[0], five[1], five[2], five[3], five[4]), 20);
                Due.is("5: byte " + b + " at " + at, p.x().tree(), -11);
                Due.is("5: byte " + b + " at " + at, p.x().place(), at);
            }
        }
        Probe p = Probe.usual();
        Due.is("5: all twenty", p.put("c(-123456789,b(b(7))").x().count(7), 20);
        p.put(")");
        Due.is("5: all twenty, and one", p.x().tree(), 5);
        Due.is("5: one by one", p.x().node(1, 1), -123456789);
        p = fresh();
        p.x().feed(-1, -1, -1, -1, -1);
        Due.is("5: -1 is four bytes of 255", p.x().tree(), -11);
        p.x().feed(HIGH, LOW, HIGH, LOW, 0);
        Due.is("5: any number", p.x().count(7), 20);
        Due.is("5: 127 is no node", p.x().tree(), -11);
    }

    private static void promise6() {
        Probe p = fresh();
        Due.is("6: nothing of nothing", p.x().cut(0), 0);
        int[] sizes = {0, 1, 7, 20, 999, 1000};
        for (int size : sizes) {
            int[] wrong = {LOW, -1, size + 1, HIGH};
            for (int n : wrong) {
                refused("6: " + n + " of " + size, () -> tapeOf(size), OUTSIDE, x -> x.cut(n));
            }
        }
        for (int size : sizes) {
            Due.is("6: all stay of " + size, tapeOf(size).x().cut(size), 0);
            Due.is("6: all go of " + size, tapeOf(size).x().cut(0), size);
            if (size > 0) {
                Due.is("6: one goes of " + size, tapeOf(size).x().cut(size - 1), 1);
            }
        }
        p = fresh().put("123456");
        p.x().cut(4);
        Due.is("6: as many as are kept", p.x().count(7), 4);
        p.put("78");
        p.x().tree();
        Due.is("6: what comes behind what is kept", p.x().node(0, 1), 123478);
        p = tapeOf(1000);
        p.x().cut(981);
        Due.is("6: not room enough", p.x().feed(0, 0, 0, 0, 0), FULL);
        p.x().cut(980);
        Due.is("6: room", p.x().feed(0, 0, 0, 0, 0), 1000);
    }

    private static void promise7() {
        int[] wrong = {LOW, -1, 1001, HIGH};
        for (int rank : wrong) {
            refused("7: RANK " + rank, BoundaryTest::askedOnce, OUTSIDE, x -> x.pattern(rank));
            refused("7: RANK " + rank + ", ahead of a FAULT", () -> askedOnce().put("(("), OUTSIDE,
                x -> x.pattern(rank));
            refused("7: RANK " + rank + ", ahead of FULL", BoundaryTest::fullPatterns, OUTSIDE, x -> x.pattern(rank));
        }
        Probe p = Probe.usual();
        int[] right = {0, 1, 999, 1000};
        for (int i = 0; i < right.length; i++) {
            Due.is("7: RANK " + right[i], p.pattern(right[i], "?"), i);
            Due.is("13: RANK " + right[i], p.x().told(i, 0), right[i]);
        }
        p = askedOnce();
        Due.is("7: the least that none has", p.x().pattern(1), 3);
        Due.is("7: what was ASKED is gone", p.x().fit(0), STATE);
        Due.is("7: the tape is empty", p.x().count(7), 0);
        Due.is("7: place", p.x().place(), NONE);
        Due.is("7: the next", p.pattern(1, "?"), 5);
    }

    private static void promise7Full() {
        Probe p = Probe.usual();
        for (int k = 0; k < 40; k++) {
            Due.is("7: the next", p.pattern(0, "?"), k);
        }
        Due.is("7: the 41st", p.pattern(0, "?"), FULL);
        Due.is("7: 40 are there", p.x().count(2), 40);
        refused("7: full", BoundaryTest::fullPatterns, FULL, x -> x.pattern(0));
        refused("7: full", BoundaryTest::fullPatterns, FULL, x -> x.pattern(1000));
        refused("7: full, ahead of a FAULT", () -> fullPatterns().put(";"), FULL, x -> x.pattern(0));
        int[] freed = {39, 0, 17};
        for (int one : freed) {
            p = fullPatterns();
            Due.is("7: one goes", p.x().drop(one), 39);
            Due.is("7: its number is free", p.x().pattern(7), one);
            Due.is("7: full anew", p.pattern(0, "?"), FULL);
        }
        p = fullPatterns();
        p.x().drop(30);
        p.x().drop(4);
        Due.is("7: the least of two", p.x().pattern(7), 4);
        Due.is("7: then the other", p.pattern(7, "?"), 30);
    }

    /** What an earlier text told of a hole, a PATTERN or its number is not told of the next one. */
    private static void promise7Anew() {
        String[] earlier = {"c(?1:1[1~2],?2:2[3~4])", "c(?1:1[1~2],?2:2[3~4];", "c(b(7),b(8))", "d(?1,?1)", "..!?1:1"};
        for (String text : earlier) {
            Probe p = Probe.usual();
            int first = p.pattern(9, text);
            if (first == 0) {
                p.x().drop(0);
            }
            p.withPattern(0, "c(?,?)");
            int[] told = {0, 3, 1, 0, 0, 0};
            for (int what = 0; what < told.length; what++) {
                Due.is("13: told(0, " + what + ") behind " + text, p.x().told(0, what), told[what]);
            }
            p.x().print(0);
            Due.text("27: behind " + text, p.out(), "c(?,?)");
            p.withTree("c(a,5)");
            Due.is("16: behind " + text, p.x().ask(), 1);
            Due.is("19: behind " + text, p.x().filling(0, 0, 1), NONE);
        }
        Probe p = Probe.usual().withPattern(0, "c(?,?)").withPattern(0, earlier[0]).withPattern(0, "c(?,?)");
        Due.is("25: like ones, ahead of and behind other ones", p.x().shared(0, 2), 3);
        Due.is("25: unlike at once", p.x().shared(0, 1), 1);
    }

    private static void promise8() {
        int[] unknown = {LOW, -1, 3, 5, 39, 40, HIGH};
        for (int p : unknown) {
            refused("8: no PATTERN " + p, BoundaryTest::askedOnce, UNKNOWN, x -> x.drop(p));
        }
        refused("8: none behind the full", BoundaryTest::fullPatterns, UNKNOWN, x -> x.drop(40));
        Probe p = fullPatterns();
        for (int k = 39; k >= 0; k--) {
            Due.is("8: how many are left", p.x().drop(k), k);
            Due.is("8: not twice", p.x().drop(k), UNKNOWN);
        }
        Due.is("8: none in the net", p.x().count(4), 0);
        Due.is("8: no STEPS", p.x().count(5), 0);
        Due.is("8: no MARKS", p.x().count(6), 0);
        Due.is("8: the first number anew", p.x().pattern(0), 0);
        p = askedOnce();
        Due.is("8: asked", p.x().fit(0), 4);
        Due.is("8: a PATTERN that did not fit", p.x().drop(1), 3);
        Due.is("8: what was ASKED is gone", p.x().fit(0), STATE);
        Due.is("8: of the others, too", p.x().fillings(0), STATE);
    }

    private static void promise9() {
        Probe p = askedOnce();
        Due.is("9: a TREE in place of another", p.x().tree(), 2);
        Due.is("9: its nodes alone", p.x().node(2, 0), UNKNOWN);
        Due.is("9: what was ASKED is gone", p.x().fit(0), STATE);
        Due.is("9: the tape is empty", p.x().count(7), 0);
        Due.is("9: an empty tape", p.x().tree(), -11);
        Due.is("9: the TREE stays", p.x().count(3), 2);
        Due.is("9: one node", p.tree("5"), 1);
        Due.is("9: one node", p.tree("h"), 1);
        Due.is("9: no HEADS are needed for a number", fresh().tree("-1"), 1);
    }

    private static void promise10() {
        int[] unknown = {LOW, -1, 6, 120, HIGH};
        for (int n : unknown) {
            refused("10: no node " + n, BoundaryTest::askedOnce, UNKNOWN, x -> x.change(n));
            refused("10: no node " + n + ", ahead of a FAULT", () -> askedOnce().put(")"), UNKNOWN,
                x -> x.change(n));
        }
        refused("10: no TREE", BoundaryTest::noTree, UNKNOWN, x -> x.change(0));
        String[] due = {"b(77)", "c(b(77),b(3))", "c(d(b(77),2),b(3))", "c(d(1,b(77)),b(3))", "c(d(1,2),b(77))",
            "c(d(1,2),b(b(77)))"};
        int[] counts = {2, 5, 7, 7, 6, 7};
        for (int n = 0; n < 6; n++) {
            Probe p = askedOnce();
            Due.is("10: node " + n, p.x().change(n), counts[n]);
            Due.is("10: node " + n + ", what was ASKED is gone", p.x().fit(0), STATE);
            Due.is("10: node " + n + ", none behind", p.x().node(counts[n], 0), UNKNOWN);
            Due.is("10: node " + n + ", all", p.x().node(0, 3), counts[n]);
            p.x().printNode(0);
            Due.text("10: node " + n, p.out(), due[n]);
        }
    }

    private static void promise12() {
        int[] wrong = {LOW, -1, 9, HIGH};
        for (int what : wrong) {
            refused("12: count(" + what + ")", BoundaryTest::askedOnce, OUTSIDE, x -> x.count(what));
            refused("12: count(" + what + ")", BoundaryTest::fresh, OUTSIDE, x -> x.count(what));
        }
        Probe p = askedOnce();
        int[] counts = {5, 8, 4, 6, 2, 4, 6, 8, 8};
        for (int what = 0; what < 9; what++) {
            Due.is("12: count(" + what + ")", p.x().count(what), counts[what]);
        }
    }

    private static void promise12Full() {
        Due.is("12: all KINDS", fullKinds().x().count(0), 12);
        Due.is("12: all HEADS", fullHeads().x().count(1), 20);
        Due.is("12: all PATTERNS", fullPatterns().x().count(2), 40);
        Due.is("12: half of them in the net", fullPatterns().x().count(4), 20);
        Due.is("12: one STEP", fullPatterns().x().count(5), 1);
        Due.is("12: twenty MARKS", fullPatterns().x().count(6), 20);
        Due.is("12: all of the tape", tapeOf(1000).x().count(7), 1000);
        Probe p = Probe.usual();
        for (int k = 0; k < 40; k++) {
            String first = "" + (k < 30 ? k : 0);
            p.withPattern(0, "g(" + first + ",g(1,2,3,4),g(1,2,3,4),g(1,2,3,g(1,2,3,b(b(b(7))))))");
        }
        Due.is("12: nodes", p.x().told(39, 1), 24);
        Due.is("12: 40 in the net", p.x().count(4), 40);
        Due.is("12: MARKS, shared ones each time", p.x().count(6), 40 * 24);
        Due.is("12: STEPS, shared ones once", p.x().count(5), 1 + 30 * 23);
    }

    private static void promise13() {
        int[] unknown = {LOW, -1, 3, 5, 40, HIGH};
        for (int p : unknown) {
            refused("13: no PATTERN " + p, BoundaryTest::askedOnce, UNKNOWN, x -> x.told(p, 0));
            refused("13: UNKNOWN ahead of OUTSIDE", BoundaryTest::askedOnce, UNKNOWN, x -> x.told(p, 6));
        }
        int[] wrong = {LOW, -1, 6, HIGH};
        for (int what : wrong) {
            refused("13: told(0, " + what + ")", BoundaryTest::askedOnce, OUTSIDE, x -> x.told(0, what));
        }
        String[] texts = {"7", "h", "?", "?0", "..?9", "g(g(?0,?1,?2,?3),g(?4,?5,?6,?7),c(?8,?9),c(?0,?9))",
            "g(g(?5,?5,?5,?5),g(?5,?5,?5,?5),g(?5,?5,?5,?5),g(?5,?5,?5,b(b(b(?5)))))", "!!!!!!......h"};
        int[][] told = {{1, 1, 0, 0, 0}, {1, 0, 0, 0, 1}, {1, 1, 0, 0, 0}, {1, 1, 1, 1, 0}, {2, 0, 1, 1, 1},
            {17, 1, 12, 10, 0}, {24, 1, 16, 1, 0}, {10, 0, 0, 0, 10}};
        Probe p = Probe.usual();
        for (int i = 0; i < texts.length; i++) {
            p.withPattern(i * 100, texts[i]);
            Due.is("13: RANK of " + texts[i], p.x().told(i, 0), i * 100);
            for (int what = 1; what <= 5; what++) {
                Due.is("13: told(.., " + what + ") of " + texts[i], p.x().told(i, what), told[i][what - 1]);
            }
        }
    }

    private static void promise14() {
        int[] unknown = {LOW, -1, 6, 120, HIGH};
        for (int n : unknown) {
            refused("14: no node " + n, BoundaryTest::askedOnce, UNKNOWN, x -> x.node(n, 0));
            refused("14: UNKNOWN ahead of OUTSIDE", BoundaryTest::askedOnce, UNKNOWN, x -> x.node(n, 5));
        }
        refused("14: no TREE", BoundaryTest::noTree, UNKNOWN, x -> x.node(0, 0));
        int[] wrong = {LOW, -1, 5, HIGH};
        for (int what : wrong) {
            refused("14: node(0, " + what + ")", BoundaryTest::askedOnce, OUTSIDE, x -> x.node(0, what));
            refused("14: node(5, " + what + ")", BoundaryTest::askedOnce, OUTSIDE, x -> x.node(5, what));
        }
        long[] numbers = {-1, 0, -1001, -1002, -1003, -1004, 2147483648L, -2147483649L, 4294967296L,
            999999999999999999L, -999999999999999999L};
        for (long number : numbers) {
            Probe p = fresh().withTree("" + number);
            long[] due = {NONE, number, NONE, 1, 0};
            for (int what = 0; what < 5; what++) {
                Due.is("14: node(0, " + what + ") of " + number, p.x().node(0, what), due[what]);
            }
        }
        Probe p = fresh().withTree("-0");
        Due.is("14: -0 is 0", p.x().node(0, 1), 0);
        p = fullHeads().withTree("t(1,2,3,k)");
        long[][] due = {{19, 0, NONE, 5, 1}, {NONE, 1, 0, 1, 0}, {NONE, 2, 0, 1, 0}, {NONE, 3, 0, 1, 0},
            {10, 0, 0, 1, 0}};
        for (int n = 0; n < 5; n++) {
            for (int what = 0; what < 5; what++) {
                Due.is("14: node(" + n + ", " + what + ")", p.x().node(n, what), due[n][what]);
            }
        }
    }

    private static void promise15() {
        int[] unknown = {LOW, -1, 6, 120, HIGH};
        for (int n : unknown) {
            refused("15: no node " + n, BoundaryTest::askedOnce, UNKNOWN, x -> x.alike(n, 0));
            refused("15: no node " + n, BoundaryTest::askedOnce, UNKNOWN, x -> x.alike(5, n));
            refused("15: no node " + n + " twice", BoundaryTest::askedOnce, UNKNOWN, x -> x.alike(n, n));
        }
        refused("15: no TREE", BoundaryTest::noTree, UNKNOWN, x -> x.alike(0, 0));
        Probe p = askedOnce();
        for (int a = 0; a < 6; a++) {
            for (int b = 0; b < 6; b++) {
                Due.is("15: " + a + " and " + b, p.x().alike(a, b), a == b ? 1 : 0);
            }
        }
        p = Probe.usual().withTree("g(c(1,b(a)),c(1,b(a)),c(1,b(h)),c(2,b(a)))");
        Due.is("15: alike to the last node below", p.x().alike(1, 5), 1);
        Due.is("15: unlike in the last node below", p.x().alike(1, 9), 0);
        Due.is("15: unlike in the first node below", p.x().alike(1, 13), 0);
        p.withTree("c(-0,a)");
        Due.is("15: a number 0 and HEAD 0", p.x().alike(1, 2), 0);
        p.withTree("c(999999999999999999,-999999999999999999)");
        Due.is("15: the ends of the numbers", p.x().alike(1, 2), 0);
        p.withTree("c(4294967296,0)");
        Due.is("15: alike as ints are not alike", p.x().alike(1, 2), 0);
        p.withTree("c(1,1)").withChain(2, 59, "5").withChain(1, 59, "5");
        Due.is("15: two chains of 59", p.x().alike(1, 60), 1);
        Due.is("15: one is shorter", p.x().alike(2, 60), 0);
        p.withChange(118, "a");
        Due.is("15: unlike at their ends", p.x().alike(1, 60), 0);
    }

    // ---- asking

    private static int fits(String pattern, String tree) {
        return Probe.usual().withPattern(0, pattern).withTree(tree).x().ask();
    }

    private static void promise16() {
        refused("16: no TREE", BoundaryTest::noTree, STATE, RuleNet::ask);
        refused("16: no TREE after a FAULT", () -> {
            Probe p = noTree();
            p.tree("c(1");
            return p;
        }, STATE, RuleNet::ask);
        Probe p = Probe.usual().withTree("a");
        Due.is("16: no PATTERNS", p.x().ask(), 0);
        Due.is("16: no PATTERNS, but ASKED", p.x().fit(0), NONE);
        p = fullPatterns();
        Due.is("16: all 40", p.x().ask(), 40);
        p.x().cut(0);
        p.withTree("8");
        Due.is("16: half of 40", p.x().ask(), 20);
        p.x().drop(0);
        Due.is("16: one less", p.x().ask(), 19);
        Due.is("16: once more", p.x().ask(), 19);
        p = noTree();
        p.x().tree();
        Due.is("16: a number below is fit", p.x().ask(), 1);
        Due.is("16: .. at a node without any below", fits("..7", "7"), 1);
        Due.is("16: .. at a node without any below", fits("..7", "8"), 0);
        Due.is("16: ! at a node without any below", fits("!7", "7"), 0);
        Due.is("16: ! at a node without any below", fits("!7", "8"), 1);
        Due.is("16: ! the last below", fits("!8", "g(1,2,3,b(8))"), 0);
        Due.is("16: .. the last below", fits("..8", "g(1,2,3,b(8))"), 1);
        Due.is("16: .. not beside", fits("c(..8,?)", "c(b(1),8)"), 0);
        Due.is("16: ! not beside", fits("c(!8,?)", "c(b(1),8)"), 1);
    }

    private static void promise16Spans() {
        String high = "999999999999999999";
        String[] spans = {"[3~5]", "[3~5]", "[3~5]", "[3~5]", "[3~5]", "[4~4]", "[4~4]", "[4~4]", "[5~3]", "[5~3]",
            "[5~3]", "[-5~-3]", "[-5~-3]", "[-5~-3]", "[-5~-3]", "[-1~0]", "[-0~0]", "[-" + high + "~" + high + "]",
            "[-" + high + "~" + high + "]", "[0~" + high + "]", "[-" + high + "~0]", "[0~0]"};
        String[] trees = {"2", "3", "4", "5", "6", "3", "4", "5", "3", "4", "5", "-6", "-5", "-3", "-2", "0", "-0",
            high, "-" + high, "-1", "1", "a"};
        int[] due = {0, 1, 1, 1, 0, 0, 1, 0, 0, 0, 0, 0, 1, 1, 0, 1, 1, 1, 1, 0, 0, 0};
        for (int i = 0; i < spans.length; i++) {
            Due.is("16: SPAN " + spans[i] + " of " + trees[i], fits("?" + spans[i], trees[i]), due[i]);
            Due.is("16: SPAN with a NAME " + spans[i] + " of " + trees[i], fits("?9" + spans[i], trees[i]), due[i]);
            Due.is("16: SPAN and KIND 0 " + spans[i], fits("?:0" + spans[i], trees[i]), due[i]);
            Due.is("16: SPAN and KIND 1 " + spans[i], fits("?:1" + spans[i], trees[i]), 0);
        }
        Due.is("16: KIND itself", fits("?:1", "b(1)"), 1);
        Due.is("16: KIND under it", fits("?:1", "c(1,1)"), 1);
        Due.is("16: KIND above it", fits("?:2", "b(1)"), 0);
        Due.is("16: KIND 0 of a number", fits("?:0", "1"), 1);
        Due.is("16: another KIND of a number", fits("?:1", "1"), 0);
    }

    private static void promise16Orders() {
        String[] loose = {"h", "i(?0)", "d(?0,?1)", "e(?0,?1,?2)", "f(?0,?1,?2,?3)"};
        String[] trees = {"h", "i(1)", "d(1,2)", "e(1,2,3)", "f(1,2,3,4)"};
        int[] orders = {1, 1, 2, 6, 24};
        for (int parts = 0; parts <= 4; parts++) {
            Probe p = Probe.usual();
            p.x().head(0, 1, true);
            p.withPattern(0, loose[parts]).withTree(trees[parts]);
            p.x().ask();
            Due.is("18: orders of " + parts, p.x().fillings(0), orders[parts]);
            Due.is("20: TRIES of all orders of " + parts, p.x().asked(0, 0), 1 + parts * orders[parts]);
            int f = 0;
            // A row of PARTS' numbers from 1 on, read as a number, so the least comes first.
            for (int row = 0; row < 5000; row++) {
                if (isOrder(row, parts)) {
                    int rest = row;
                    for (int name = parts - 1; name >= 0; name--, rest /= 10) {
                        Due.is("19: order " + row + ", NAME " + name, p.x().filling(0, f, name), rest % 10);
                    }
                    f++;
                }
            }
            Due.is("19: so many orders of " + parts, f, orders[parts]);
        }
    }

    private static boolean isOrder(int row, int parts) {
        int seen = 0;
        int digits = 0;
        for (int rest = row; rest > 0; rest /= 10) {
            seen |= 1 << rest % 10;
            digits++;
        }
        return digits == parts && seen == (1 << parts + 1) - 2;
    }

    /** PATTERNS of 24 nodes, of all sorts, FIT to the last node. */
    private static void promise16Nodes() {
        String numbers = "g(g(1,2,3,4),g(1,2,3,4),g(1,2,3,4),g(1,2,3,b(b(b(7)))))";
        String[] patterns = {numbers, "g(g(?0,?1,?2,?3),g(?0,?1,?2,?3),g(?0,?1,?2,?3),g(?0,?1,?2,b(b(b(?4)))))",
            "g(g(?,?,?,?),g(?,?,?,?),g(?,?,?,?),g(?,?,?,b(b(b(?)))))", "g(!!!!!!a,......7,b(b(b(b(b(b(7)))))),!!!!5)"};
        String[] trees = {numbers, numbers, numbers, "g(a,7,b(b(b(b(b(b(7)))))),5)"};
        for (int i = 0; i < patterns.length; i++) {
            Probe p = Probe.usual().withPattern(0, patterns[i]).withTree(trees[i]);
            Due.is("13: 24 nodes, " + patterns[i], p.x().told(0, 1), 24);
            Due.is("16: 24 nodes, " + patterns[i], p.x().ask(), 1);
            Due.is("20: 24 TRIES, " + patterns[i], p.x().asked(0, 0), 24);
            p.withChange(p.x().count(3) - 1, "99");
            Due.is("16: another last node, " + patterns[i], p.x().ask(), i == 1 || i == 2 ? 1 : 0);
        }
        Probe none = Probe.usual().withPattern(0, "c(h,7)").withTree("c(h,7)");
        none.x().ask();
        Due.is("20: no PARTS stand in one order", none.x().asked(0, 0), 3);
        Due.is("16: a choice goes on behind a hole that does not fit", fits("..?1[5~5]", "g(1,b(4),a,b(5))"), 1);
        Due.is("16: a choice goes on behind a KIND that does not fit", fits("..?1:2", "g(1,b(4),a,c(1,1))"), 1);
        Due.is("16: a choice goes on behind what is not ALIKE", fits("c(?1,..?1)", "c(5,g(1,b(4),a,b(5)))"), 1);
        Probe p = Probe.usual().withPattern(0, "..?0").withPattern(0, "..?9").withTree("c(1,b(2))");
        p.x().ask();
        Due.is("18: unlike in the first NAME alone", p.x().fillings(0), 4);
        Due.is("18: unlike in the last NAME alone", p.x().fillings(1), 4);
    }

    private static void promise17() {
        int[] all = {LOW, -1, 0, 1, 40, HIGH};
        for (int i : all) {
            refused("17: nothing is ASKED, " + i, BoundaryTest::notAsked, STATE, x -> x.fit(i));
            refused("17: no TREE, " + i, BoundaryTest::noTree, STATE, x -> x.fit(i));
        }
        // c(?1,?2) and ..?1 fit; d(?1,?2) and c(?1,?1) do not.
        Probe p = askedOnce();
        int[] places = {LOW, -1, 0, 1, 2, 3, HIGH};
        int[] due = {NONE, NONE, 4, 0, NONE, NONE, NONE};
        for (int i = 0; i < places.length; i++) {
            Due.is("17: fit(" + places[i] + ")", p.x().fit(places[i]), due[i]);
        }
        p = Probe.usual();
        for (int k = 0; k < 40; k++) {
            p.withPattern(k < 20 ? 1000 - k : k % 2 * 1000, "?");
        }
        p.withTree("1").x().ask();
        for (int i = 0; i < 10; i++) {
            Due.is("17: RANK 0, by numbers", p.x().fit(i), 20 + 2 * i);
        }
        for (int i = 10; i < 30; i++) {
            Due.is("17: the RANKS between", p.x().fit(i), i == 29 ? 0 : 29 - i);
        }
        for (int i = 30; i < 40; i++) {
            Due.is("17: RANK 1000, by numbers", p.x().fit(i), 21 + 2 * (i - 30));
        }
        Due.is("17: not so many", p.x().fit(40), NONE);
    }

    /** Only pattern(), drop(), tree() and change() make that nothing is ASKED, and only if they are taken. */
    private static void promise17Stays() {
        Call[] others = {x -> x.kind(0), x -> x.isUnder(0, 0), x -> x.head(0, 0, true), x -> x.feed(0, 0, 0, 0, 0),
            x -> x.cut(0), RuleNet::place, x -> x.count(5), x -> x.told(0, 0), x -> x.node(0, 0), x -> x.alike(0, 0),
            RuleNet::ask, x -> x.fit(9), x -> x.fillings(1), x -> x.filling(0, 0, 0), x -> x.asked(0, 0),
            x -> x.at(1, 1), x -> x.found(1, 0), x -> x.looks(0), x -> x.parts(0, 0), x -> x.shared(0, 2),
            x -> x.clash(0, 0), x -> x.print(0), x -> x.printNode(0), x -> x.out(0), RuleNet::back};
        Probe p = askedOnce();
        for (int i = 0; i < others.length; i++) {
            Due.is("17: a call that is no refusal, " + i, others[i].on(p.x()) > -1001 ? 1 : 0, 1);
            Due.is("17: what was ASKED stays, " + i, p.x().fit(0), 4);
            Due.is("18: what was ASKED stays, " + i, p.x().fillings(4), 6);
            Due.is("19: what was ASKED stays, " + i, p.x().filling(0, 0, 2), 4);
            Due.is("20: what was ASKED stays, " + i, p.x().asked(4, 0), 7);
        }
        Call[] taking = {x -> x.pattern(0), x -> x.drop(2), RuleNet::tree, x -> x.change(5)};
        for (int i = 0; i < taking.length; i++) {
            p = askedOnce();
            Due.is("17: a call that is taken, " + i, taking[i].on(p.x()) >= 0 ? 1 : 0, 1);
            Due.is("17: what was ASKED is gone, " + i, p.x().fit(0), STATE);
            Due.is("18: what was ASKED is gone, " + i, p.x().fillings(4), STATE);
            Due.is("19: what was ASKED is gone, " + i, p.x().filling(0, 0, 2), STATE);
            Due.is("20: what was ASKED is gone, " + i, p.x().asked(4, 0), STATE);
            Due.is("16: it can be ASKED anew, " + i, p.x().ask() > 0 ? 1 : 0, 1);
            Due.is("17: ASKED anew, " + i, p.x().fit(0) >= 0 ? 1 : 0, 1);
        }
    }

    private static void promise18() {
        int[] unknown = {LOW, -1, 3, 5, 40, HIGH};
        for (int p : unknown) {
            refused("18: no PATTERN " + p, BoundaryTest::askedOnce, UNKNOWN, x -> x.fillings(p));
            refused("18: UNKNOWN ahead of STATE", BoundaryTest::notAsked, UNKNOWN, x -> x.fillings(p));
        }
        int[] known = {0, 1, 2, 4};
        int[] due = {1, 0, 0, 6};
        for (int i = 0; i < 4; i++) {
            int p = known[i];
            refused("18: nothing is ASKED", BoundaryTest::notAsked, STATE, x -> x.fillings(p));
            refused("18: no TREE", BoundaryTest::noTree, STATE, x -> x.fillings(p));
            Due.is("18: FILLINGS of " + p, askedOnce().x().fillings(p), due[i]);
        }
    }

    private static void promise19() {
        int[] patterns = {LOW, -1, 3, 5, 40, HIGH};
        int[] names = {LOW, -1, 10, HIGH};
        int[] fillings = {LOW, -1, 1, 30, HIGH};
        for (int p : patterns) {
            refused("19: no PATTERN " + p, BoundaryTest::askedOnce, UNKNOWN, x -> x.filling(p, 0, 1));
            refused("19: the PATTERN ahead of STATE", BoundaryTest::notAsked, UNKNOWN, x -> x.filling(p, 0, 1));
            refused("19: the PATTERN ahead of all", BoundaryTest::notAsked, UNKNOWN, x -> x.filling(p, 99, 10));
            refused("19: the PATTERN ahead of OUTSIDE", BoundaryTest::askedOnce, UNKNOWN, x -> x.filling(p, 0, 10));
        }
        for (int f : fillings) {
            refused("19: no FILLING " + f, BoundaryTest::askedOnce, UNKNOWN, x -> x.filling(0, f, 1));
            refused("19: STATE ahead of the FILLING", BoundaryTest::notAsked, STATE, x -> x.filling(0, f, 1));
            for (int n : names) {
                refused("19: the FILLING ahead of OUTSIDE", BoundaryTest::askedOnce, UNKNOWN,
                    x -> x.filling(0, f, n));
                refused("19: STATE ahead of both", BoundaryTest::notAsked, STATE, x -> x.filling(0, f, n));
            }
        }
        for (int n : names) {
            refused("19: NAME " + n, BoundaryTest::askedOnce, OUTSIDE, x -> x.filling(0, 0, n));
            refused("19: STATE ahead of OUTSIDE", BoundaryTest::notAsked, STATE, x -> x.filling(0, 0, n));
            refused("19: STATE without a TREE", BoundaryTest::noTree, STATE, x -> x.filling(0, 0, n));
            refused("19: no FILLING at all", BoundaryTest::askedOnce, UNKNOWN, x -> x.filling(1, 0, n));
        }
        refused("19: STATE", BoundaryTest::notAsked, STATE, x -> x.filling(0, 0, 1));
        Probe p = askedOnce();
        int[] due = {NONE, 1, 4, NONE, NONE, NONE, NONE, NONE, NONE, NONE};
        for (int n = 0; n < 10; n++) {
            Due.is("19: NAME " + n, p.x().filling(0, 0, n), due[n]);
        }
        p = Probe.usual().withPattern(0, "c(?0,?9)").withTree("c(5,6)");
        p.x().ask();
        Due.is("19: the first NAME", p.x().filling(0, 0, 0), 1);
        Due.is("19: the last NAME", p.x().filling(0, 0, 9), 2);
    }

    private static void promise20() {
        int[] patterns = {LOW, -1, 3, 5, 40, HIGH};
        int[] wrong = {LOW, -1, 3, HIGH};
        for (int p : patterns) {
            refused("20: no PATTERN " + p, BoundaryTest::askedOnce, UNKNOWN, x -> x.asked(p, 0));
            refused("20: UNKNOWN ahead of OUTSIDE", BoundaryTest::askedOnce, UNKNOWN, x -> x.asked(p, 3));
            refused("20: UNKNOWN ahead of STATE", BoundaryTest::notAsked, UNKNOWN, x -> x.asked(p, 0));
            refused("20: UNKNOWN ahead of both", BoundaryTest::noTree, UNKNOWN, x -> x.asked(p, -1));
        }
        for (int what : wrong) {
            refused("20: asked(0, " + what + ")", BoundaryTest::askedOnce, OUTSIDE, x -> x.asked(0, what));
            refused("20: OUTSIDE ahead of STATE", BoundaryTest::notAsked, OUTSIDE, x -> x.asked(0, what));
        }
        for (int what = 0; what < 3; what++) {
            int one = what;
            refused("20: nothing is ASKED", BoundaryTest::notAsked, STATE, x -> x.asked(0, one));
            refused("20: no TREE", BoundaryTest::noTree, STATE, x -> x.asked(0, one));
        }
        Probe p = askedOnce();
        int[][] due = {{0, 3, 0, 0}, {1, 1, 0, 0}, {2, 3, 0, 0}, {4, 7, 0, 0}};
        for (int[] one : due) {
            for (int what = 0; what < 3; what++) {
                Due.is("20: asked(" + one[0] + ", " + what + ")", p.x().asked(one[0], what), one[what + 1]);
            }
        }
    }

    /**
     * On a chain of n without an 8, !..8 takes 1 try, n, and from each node on all below: 1953 of 61. !8 takes 1 and
     * n. So g(!..8,!8,..) with chains of 61 and m has used up 1955 + m when its third PART comes.
     */
    private static Probe spending(int m, String pattern, String third, String fourth) {
        Probe p = Probe.usual().withPattern(0, pattern).withTree("g(1,1," + third + "," + fourth + ")");
        p.withChain(2, m, "1").withChain(1, 61, "1");
        p.x().ask();
        return p;
    }

    private static void dueAsked(String what, Probe p, int tries, int spent, int many, int fillings) {
        Due.is("20: TRIES, " + what, p.x().asked(0, 0), tries);
        Due.is("20: SPENT, " + what, p.x().asked(0, 1), spent);
        Due.is("20: MANY, " + what, p.x().asked(0, 2), many);
        Due.is("18: FILLINGS, " + what, p.x().fillings(0), fillings);
        Due.is("17: it fits, " + what, p.x().fit(0), fillings > 0 ? 0 : NONE);
        Due.is("19: the last, " + what, p.x().filling(0, fillings - 1, 0), fillings > 0 ? NONE : UNKNOWN);
        Due.is("19: none behind, " + what, p.x().filling(0, fillings, 1), UNKNOWN);
        Due.is("21: at the first node, " + what, p.x().at(0, 0), fillings);
        Due.is("22: found, " + what, p.x().found(0, 0), fillings > 0 ? 0 : NONE);
        Due.is("20: TRIES are as they were, " + what, p.x().asked(0, 0), tries);
    }

    private static void promise20Spent() {
        String two = "g(!..8,!8,?1,?2)";
        dueAsked("1999", spending(42, two, "5", "6"), 1999, 0, 0, 1);
        dueAsked("just 2000", spending(43, two, "5", "6"), 2000, 0, 0, 1);
        dueAsked("the 2001st", spending(44, two, "5", "6"), 2000, 1, 0, 0);
        dueAsked("the 2001st does not fit either", spending(44, "g(!..8,!8,?1,9)", "5", "6"), 2000, 1, 0, 0);
        dueAsked("the 2000th does not fit", spending(43, "g(!..8,!8,?1,9)", "5", "6"), 2000, 0, 0, 0);
        String below = "g(!..8,!8,?,..?1)";
        dueAsked("three, the last at 2000", spending(40, below, "5", "c(1,2)"), 2000, 0, 0, 3);
        dueAsked("three, and one too late", spending(40, below, "5", "c(1,b(2))"), 2000, 1, 0, 3);
        dueAsked("three, the last too late", spending(41, below, "5", "c(1,2)"), 2000, 1, 0, 2);
        String nowhere = "g(!..8,!8,?1,!9)";
        dueAsked("within !, just 2000", spending(41, nowhere, "5", "b(6)"), 2000, 0, 0, 1);
        dueAsked("within !, the 2001st", spending(42, nowhere, "5", "b(6)"), 2000, 1, 0, 0);
        dueAsked("within !, the 2000th is", spending(41, nowhere, "5", "b(9)"), 2000, 0, 0, 0);
        dueAsked("within !, would be the 2001st", spending(42, nowhere, "5", "b(9)"), 2000, 1, 0, 0);
        Probe p = spending(44, two, "5", "6").withPattern(0, "?");
        Due.is("20: each PATTERN has its own TRIES", p.x().ask(), 1);
        Due.is("20: each PATTERN has its own TRIES", p.x().asked(1, 0), 1);
        Due.is("20: each PATTERN has its own TRIES", p.x().asked(1, 1), 0);
        p.withTree("g(1,1,5,6)").x().ask();
        dueAsked("SPENT no more", p, 8, 0, 0, 1);
        p = Probe.usual().withPattern(0, "..?1").withTree("1").withChain(0, 31, "1");
        p.x().ask();
        dueAsked("MANY", p, 32, 0, 1, 30);
        p.withTree("1").x().ask();
        dueAsked("MANY no more", p, 2, 0, 0, 1);
    }

    private static void promise20Many() {
        for (int nodes = 29; nodes <= 33; nodes++) {
            Probe p = Probe.usual().withPattern(0, "..?1").withTree("1").withChain(0, nodes, "1");
            p.x().ask();
            int tried = Math.min(nodes, 31);
            dueAsked(nodes + " nodes", p, tried + 1, 0, nodes > 30 ? 1 : 0, Math.min(nodes, 30));
            for (int f = 0; f < Math.min(nodes, 30); f++) {
                Due.is("19: the first that come", p.x().filling(0, f, 1), f);
            }
        }
        // Each of the 30 comes three times, as the other .. goes over 3 nodes: the like ones do not make it MANY.
        Probe p = Probe.usual().withPattern(0, "c(..?1,..?)").withTree("c(1,b(b(7)))").withChain(1, 30, "1");
        p.x().ask();
        dueAsked("like ones", p, 2 + 30 * (2 + 3), 0, 0, 30);
        p = Probe.usual().withPattern(0, "c(..?1,..?)").withTree("c(1,b(b(7)))").withChain(1, 31, "1");
        p.x().ask();
        dueAsked("like ones, then the 31st", p, 2 + 30 * (2 + 3) + 3, 0, 1, 30);
        p = Probe.usual().withPattern(0, "c(..?,..?1)").withTree("c(b(7),1)").withChain(3, 30, "1");
        p.x().ask();
        dueAsked("like ones behind all", p, 2 + 2 * (2 + 30), 0, 0, 30);
        p = Probe.usual().withPattern(0, "..?").withTree("1").withChain(0, 120, "1");
        p.x().ask();
        dueAsked("one, from 120 nodes", p, 121, 0, 0, 1);
    }

    private static void promise20ManyOrSpent() {
        // 1955 + m, ? and .., and 31 nodes: the 31st comes as the 2000th, or would as the 2001st.
        String below = "g(!..8,!8,?,..?1)";
        String nodes = "g(g(1,1,1,1),g(1,1,1,1),g(1,1,1,1),g(1,1,1,g(1,1,1,b(b(b(b(b(b(1" + ")".repeat(9);
        dueAsked("the 31st at 1999", spending(11, below, "5", nodes), 1999, 0, 1, 30);
        dueAsked("the 31st at 2000", spending(12, below, "5", nodes), 2000, 0, 1, 30);
        dueAsked("the 31st too late", spending(13, below, "5", nodes), 2000, 1, 0, 30);
        dueAsked("the 30th too late", spending(14, below, "5", nodes), 2000, 1, 0, 29);
    }

    private static void promise21() {
        int[] patterns = {LOW, -1, 3, 5, 40, HIGH};
        int[] nodes = {LOW, -1, 6, 120, HIGH};
        for (int p : patterns) {
            refused("21: no PATTERN " + p, BoundaryTest::askedOnce, UNKNOWN, x -> x.at(p, 0));
            refused("21: no PATTERN " + p, BoundaryTest::noTree, UNKNOWN, x -> x.at(p, 0));
        }
        for (int n : nodes) {
            refused("21: no node " + n, BoundaryTest::askedOnce, UNKNOWN, x -> x.at(0, n));
            refused("21: no node " + n, BoundaryTest::notAsked, UNKNOWN, x -> x.at(4, n));
        }
        refused("21: no TREE", BoundaryTest::noTree, UNKNOWN, x -> x.at(0, 0));
        int[] due = {6, 3, 1, 1, 2, 1};
        for (int n = 0; n < 6; n++) {
            int one = n;
            refused("21: ..?1 at " + n, BoundaryTest::askedOnce, due[n], x -> x.at(4, one));
            refused("21: ..?1 at " + n + ", nothing is ASKED by it", BoundaryTest::notAsked, due[n],
                x -> x.at(4, one));
        }
        Probe p = Probe.usual().withPattern(0, "..?1").withTree("1").withChain(0, 120, "1");
        int[] at = {0, 88, 89, 90, 91, 118, 119};
        int[] kept = {30, 30, 30, 30, 29, 2, 1};
        for (int i = 0; i < at.length; i++) {
            Due.is("21: 30 are kept at most, at " + at[i], p.x().at(0, at[i]), kept[i]);
        }
    }

    private static void promise22() {
        int[] patterns = {LOW, -1, 3, 5, 40, HIGH};
        for (int p : patterns) {
            refused("22: no PATTERN " + p, BoundaryTest::askedOnce, UNKNOWN, x -> x.found(p, 0));
            refused("22: UNKNOWN, though i is below 0", BoundaryTest::askedOnce, UNKNOWN, x -> x.found(p, -1));
            refused("22: UNKNOWN without a TREE", BoundaryTest::noTree, UNKNOWN, x -> x.found(p, 0));
        }
        int[] places = {LOW, -1, 0, 1, 5, 6, HIGH};
        int[] due = {NONE, NONE, 0, 1, 5, NONE, NONE};
        for (int i = 0; i < places.length; i++) {
            int one = places[i];
            refused("22: found(4, " + one + ")", BoundaryTest::askedOnce, due[i], x -> x.found(4, one));
            refused("22: found(4, " + one + "), not ASKED", BoundaryTest::notAsked, due[i], x -> x.found(4, one));
            refused("22: no TREE", BoundaryTest::noTree, NONE, x -> x.found(4, one));
            refused("22: nowhere", BoundaryTest::askedOnce, NONE, x -> x.found(2, one));
            refused("22: once", BoundaryTest::askedOnce, one == 0 ? 1 : NONE, x -> x.found(1, one));
        }
        Probe p = Probe.usual().withPattern(0, "?").withTree("1").withChain(0, 120, "1").withPattern(0, "1");
        for (int i = 119; i >= 0; i -= 17) {
            Due.is("22: all 120", p.x().found(0, i), i);
        }
        Due.is("22: not so many", p.x().found(0, 120), NONE);
        Due.is("22: the last node alone", p.x().found(1, 0), 119);
        Due.is("22: the last node alone", p.x().found(1, 1), NONE);
        p.withChange(119, "2");
        Due.is("22: after a change", p.x().found(1, 0), NONE);
        Due.is("22: after a change", p.x().found(0, 119), 119);
        p = Probe.usual().withPattern(0, "......9").withTree("9").withChain(0, 30, "9");
        Due.is("22: what comes ahead of SPENT is found", p.x().found(0, 0), 0);
        // With m nodes below, b(!......8) takes 2 + m + m(m+1)/2 + m(m+1)(m+2)/6 + m(m+1)(m+2)(m+3)/24 TRIES: 1821
        // of 12, 2381 of 13.
        p = Probe.usual().withPattern(0, "b(!......8)").withTree("9").withChain(0, 30, "9");
        Due.is("22: the first that is not SPENT", p.x().found(0, 0), 17);
        Due.is("21: the first that is not SPENT", p.x().at(0, 17), 1);
        Due.is("21: SPENT", p.x().at(0, 16), 0);
        Due.is("22: the last", p.x().found(0, 11), 28);
        Due.is("22: not so many", p.x().found(0, 12), NONE);
    }

    // ---- the net

    private static void promise23() {
        int[] wrong = {LOW, -1, 2, HIGH};
        for (int what : wrong) {
            refused("23: looks(" + what + ")", BoundaryTest::askedOnce, OUTSIDE, x -> x.looks(what));
            refused("23: OUTSIDE ahead of STATE", BoundaryTest::noTree, OUTSIDE, x -> x.looks(what));
            refused("23: OUTSIDE ahead of STATE", BoundaryTest::fresh, OUTSIDE, x -> x.looks(what));
        }
        refused("23: no TREE", BoundaryTest::noTree, STATE, x -> x.looks(0));
        refused("23: no TREE", BoundaryTest::noTree, STATE, x -> x.looks(1));
        // c, HOLE, then HOLE and AGAIN.
        Due.is("23: looks", askedOnce().x().looks(0), 4);
        Due.is("23: plain looks", askedOnce().x().looks(1), 6);
        Probe p = Probe.usual().withTree("7");
        Due.is("23: an empty net", p.x().looks(0), 0);
        Due.is("23: an empty net", p.x().looks(1), 0);
        p.withPattern(0, "..7").withPattern(0, "h").withPattern(0, "!a");
        Due.is("23: none of them in the net", p.x().looks(0), 0);
        Due.is("23: none of them in the net", p.x().looks(1), 0);
        p.withPattern(0, "7");
        Due.is("23: one look", p.x().looks(0), 1);
        Due.is("23: one look", p.x().looks(1), 1);
        p.withPattern(0, "8").withPattern(0, "7");
        Due.is("23: one for each unlike STEP", p.x().looks(0), 2);
        Due.is("23: one for each PATTERN", p.x().looks(1), 3);
        String row = "g(g(1,2,3,4),g(1,2,3,4),g(1,2,3,4),g(1,2,3,b(b(b(7)))))";
        p = Probe.usual();
        for (int k = 0; k < 40; k++) {
            p.withPattern(0, row);
        }
        p.withTree(row);
        Due.is("23: 40 like ROWS", p.x().looks(0), 24);
        Due.is("23: 40 like ROWS", p.x().looks(1), 960);
        p.withChange(23, "8");
        Due.is("23: the last MARK is looked at", p.x().looks(0), 24);
        p.withTree("1");
        Due.is("23: the first MARK alone", p.x().looks(0), 1);
        Due.is("23: the first MARK alone", p.x().looks(1), 40);
    }

    private static void promise24() {
        int[] patterns = {LOW, -1, 3, 5, 40, HIGH};
        int[] wrong = {LOW, -1, 2, HIGH};
        for (int p : patterns) {
            refused("24: no PATTERN " + p, BoundaryTest::askedOnce, UNKNOWN, x -> x.parts(p, 0));
            refused("24: UNKNOWN ahead of OUTSIDE", BoundaryTest::askedOnce, UNKNOWN, x -> x.parts(p, 2));
            refused("24: UNKNOWN ahead of STATE", BoundaryTest::noTree, UNKNOWN, x -> x.parts(p, 1));
        }
        for (int what : wrong) {
            refused("24: parts(0, " + what + ")", BoundaryTest::askedOnce, OUTSIDE, x -> x.parts(0, what));
            refused("24: OUTSIDE ahead of not in the net", BoundaryTest::askedOnce, OUTSIDE, x -> x.parts(1, what));
            refused("24: OUTSIDE ahead of no TREE", BoundaryTest::noTree, OUTSIDE, x -> x.parts(0, what));
            refused("24: OUTSIDE ahead of both", BoundaryTest::noTree, OUTSIDE, x -> x.parts(4, what));
        }
        for (int what = 0; what < 2; what++) {
            int one = what;
            refused("24: not in the net", BoundaryTest::askedOnce, STATE, x -> x.parts(1, one));
            refused("24: not in the net", BoundaryTest::askedOnce, STATE, x -> x.parts(4, one));
            refused("24: no TREE", BoundaryTest::noTree, STATE, x -> x.parts(0, one));
            refused("24: it fits", BoundaryTest::askedOnce, NONE, x -> x.parts(0, one));
            refused("24: AGAIN", BoundaryTest::askedOnce, one == 0 ? 2 : 4, x -> x.parts(2, one));
            refused("24: though nothing is ASKED", BoundaryTest::notAsked, NONE, x -> x.parts(0, one));
        }
        String row = "g(g(1,2,3,4),g(1,2,3,4),g(1,2,3,4),g(1,2,3,b(b(b(7)))))";
        Probe p = Probe.usual().withPattern(0, row).withTree(row);
        Due.is("24: all 24 MARKS", p.x().parts(0, 0), NONE);
        p.withChange(23, "b(7)");
        Due.is("24: the last MARK", p.x().parts(0, 0), 23);
        Due.is("24: the last MARK's node", p.x().parts(0, 1), 23);
        p.withChange(0, "7");
        Due.is("24: the first MARK", p.x().parts(0, 0), 0);
        Due.is("24: the first MARK's node", p.x().parts(0, 1), 0);
        p = Probe.usual().withPattern(0, "c(?,8)").withTree("c(1,9)").withChain(1, 118, "1");
        Due.is("24: a hole passes its node with all below", p.x().parts(0, 0), 2);
        Due.is("24: the last of 120 nodes", p.x().parts(0, 1), 119);
    }

    private static void dueParts(String pattern, String tree, int mark, int node) {
        Probe p = Probe.usual().withPattern(0, pattern).withTree(tree);
        Due.is("24: the MARK, " + pattern + " of " + tree, p.x().parts(0, 0), mark);
        Due.is("24: the node, " + pattern + " of " + tree, p.x().parts(0, 1), node);
        Due.is("16: fits or not, " + pattern + " of " + tree, p.x().ask(), mark == NONE ? 1 : 0);
        Due.is("23: looks up to it, " + pattern, p.x().looks(0), mark == NONE ? p.x().told(0, 1) : mark + 1);
        Due.is("23: plain looks up to it, " + pattern, p.x().looks(1), mark == NONE ? p.x().told(0, 1) : mark + 1);
    }

    /** AGAIN: the first hole, the last, behind numbers and behind other AGAINS. */
    private static void promise24Again() {
        dueParts("c(?1,?1)", "c(5,5)", NONE, NONE);
        dueParts("c(?1,?1)", "c(5,6)", 2, 2);
        dueParts("g(?1,?1,?2,?2)", "g(5,5,6,6)", NONE, NONE);
        dueParts("g(?1,?1,?2,?2)", "g(5,5,6,5)", 4, 4);
        dueParts("g(?1,?1,?2,?2)", "g(5,6,6,6)", 2, 2);
        dueParts("g(7,?1,8,?1)", "g(7,5,8,5)", NONE, NONE);
        dueParts("g(7,?1,8,?1)", "g(7,5,8,7)", 4, 4);
        dueParts("g(?,?1,?,?1)", "g(1,b(2),3,b(2))", NONE, NONE);
        dueParts("g(?,?1,?,?1)", "g(b(3),b(2),b(3),b(3))", 4, 7);
        dueParts("g(?9,?0,?0,?9)", "g(1,2,2,1)", NONE, NONE);
        dueParts("g(?9,?0,?0,?9)", "g(1,2,2,2)", 4, 4);
        String ahead = "g(g(?,?,?,?),g(?,?,?,?),g(?,?,?,?),g(?,b(?),b(?5),";
        String tree = "g(g(1,2,3,4),g(1,2,3,4),g(1,2,3,4),g(1,b(2),b(3),";
        dueParts(ahead + "b(?5)))", tree + "b(3)))", NONE, NONE);
        dueParts(ahead + "b(?5)))", tree + "b(2)))", 23, 23);
        int[] shared = {5, 4, 2, 3, 2, 2, 1};
        String[][] rows = {{"g(?1,?2,?1,?2)", "g(?5,?6,?5,?6)"}, {"g(?1,?1,?2,?2)", "g(?3,?3,?4,?3)"},
            {"c(?1,?1)", "c(?,?)"}, {"c(?1,?2)", "c(?,?)"}, {"c(?1,?1)", "c(?1,?1:1)"}, {"c(?1,?1)", "c(?1,?1[0~0])"},
            {"c(?,7)", "c(?[0~0],7)"}};
        for (int i = 0; i < rows.length; i++) {
            Probe p = Probe.usual().withPattern(0, rows[i][0]).withPattern(0, rows[i][1]);
            Due.is("25: " + rows[i][0] + " and " + rows[i][1], p.x().shared(0, 1), shared[i]);
            int marks = p.x().count(6);
            Due.is("12: STEPS of " + rows[i][0] + " and " + rows[i][1], p.x().count(5), marks - shared[i]);
        }
    }

    private static void promise25() {
        int[] patterns = {LOW, -1, 3, 5, 40, HIGH};
        for (int p : patterns) {
            refused("25: no PATTERN " + p, BoundaryTest::askedOnce, UNKNOWN, x -> x.shared(p, 0));
            refused("25: no PATTERN " + p, BoundaryTest::askedOnce, UNKNOWN, x -> x.shared(0, p));
            refused("25: UNKNOWN ahead of STATE", BoundaryTest::askedOnce, UNKNOWN, x -> x.shared(1, p));
            refused("25: UNKNOWN ahead of STATE", BoundaryTest::askedOnce, UNKNOWN, x -> x.shared(p, 4));
        }
        int[][] state = {{0, 1}, {1, 0}, {1, 1}, {4, 2}, {2, 4}, {1, 4}};
        for (int[] two : state) {
            refused("25: not in the net", BoundaryTest::askedOnce, STATE, x -> x.shared(two[0], two[1]));
        }
        refused("25: no TREE is needed", BoundaryTest::noTree, 2, x -> x.shared(0, 2));
        refused("25: a NAME twice is no matter", BoundaryTest::noTree, 3, x -> x.shared(2, 2));
        String row = "g(g(1,2,3,4),g(1,2,3,4),g(1,2,3,4),g(1,2,3,b(b(b(";
        Probe p = Probe.usual().withPattern(0, row + "7)))))").withPattern(0, row + "8)))))").withPattern(0, "7");
        p.withPattern(0, row + "007)))))");
        Due.is("25: all of 24", p.x().shared(0, 3), 24);
        Due.is("25: all but the last", p.x().shared(0, 1), 23);
        Due.is("25: nothing", p.x().shared(0, 2), 0);
        Due.is("25: one MARK with itself", p.x().shared(2, 2), 1);
    }

    private static int clash(String a, String b) {
        Probe p = Probe.usual().withPattern(0, a).withPattern(1, b);
        int answer = p.x().clash(0, 1);
        Due.is("26: " + a + " and " + b + " the other way", p.x().clash(1, 0), answer);
        return answer;
    }

    private static void promise26() {
        int[] patterns = {LOW, -1, 3, 5, 40, HIGH};
        for (int p : patterns) {
            refused("26: no PATTERN " + p, BoundaryTest::askedOnce, UNKNOWN, x -> x.clash(p, 0));
            refused("26: no PATTERN " + p, BoundaryTest::askedOnce, UNKNOWN, x -> x.clash(0, p));
            refused("26: UNKNOWN ahead of not in the net", BoundaryTest::askedOnce, UNKNOWN, x -> x.clash(1, p));
            refused("26: UNKNOWN ahead of a NAME twice", BoundaryTest::askedOnce, UNKNOWN, x -> x.clash(p, 2));
        }
        int[][] state = {{0, 1}, {1, 0}, {1, 1}, {4, 0}, {0, 2}, {2, 0}, {2, 2}, {2, 4}};
        for (int[] two : state) {
            refused("26: not in the net, a NAME twice", BoundaryTest::askedOnce, STATE, x -> x.clash(two[0], two[1]));
        }
        refused("26: with itself, without a TREE", BoundaryTest::noTree, 1, x -> x.clash(0, 0));
        Due.is("26: ten NAMES, each once", clash("g(g(?0,?1,?2,?3),g(?4,?5,?6,?7),?8,?9)", "?"), 1);
        Due.is("26: like NAMES in both", clash("c(?1,7)", "c(8,?1)"), 1);
        Due.is("26: a HEAD and a number", clash("a", "0"), 0);
        Due.is("26: unlike in the last of 24", clash("g(g(1,2,3,4),g(1,2,3,4),g(1,2,3,4),g(1,2,3,b(b(b(7)))))",
            "g(?,?,g(?,?,?,?),g(?,?,?,b(b(b(8)))))"), 0);
        Due.is("26: like in the last of 24", clash("g(g(1,2,3,4),g(1,2,3,4),g(1,2,3,4),g(1,2,3,b(b(b(7)))))",
            "g(?,?,g(?,?,?,?),g(?,?,?,b(b(b(7)))))"), 1);
        Due.is("26: all of 24 in a hole", clash("g(g(1,2,3,4),g(1,2,3,4),g(1,2,3,4),g(1,2,3,b(b(b(7)))))", "?:1"), 1);
        Due.is("26: the last of 24 takes nothing",
            clash("g(g(1,2,3,4),g(1,2,3,4),g(1,2,3,4),g(1,2,3,b(b(b(?[2~1])))))", "?:1"), 0);
        // The tree may be larger than a TREE and deeper than a text.
        Due.is("26: holes and what lies deep", clash("c(b(b(b(b(b(b(b(b(b(b(b(?))))))))))),?)", "c(?,b(?))"), 1);
    }

    private static void promise26Spans() {
        String[][] pairs = {{"[1~5]", "[5~9]"}, {"[1~5]", "[6~9]"}, {"[5~5]", "[5~5]"}, {"[5~4]", "[4~5]"},
            {"[5~4]", ""}, {"[5~5]", ""}, {"[-3~-1]", "[-1~0]"}, {"[-3~-1]", "[0~3]"}, {"[1~9]", "[4~4]"},
            {"[1~9]", "[5~4]"}, {"[5~4]", "[5~4]"}, {"[-999999999999999999~-999999999999999999]", ""},
            {"[999999999999999999~999999999999999999]", "[0~999999999999999999]"}};
        int[] due = {1, 0, 1, 0, 0, 1, 1, 0, 1, 0, 0, 1, 1};
        for (int i = 0; i < pairs.length; i++) {
            String a = "?" + pairs[i][0];
            String b = "?" + pairs[i][1];
            Due.is("26: " + a + " and " + b, clash(a, b), due[i]);
            Due.is("26: below, " + a + " and " + b, clash("c(1," + a + ")", "c(?," + b + ")"), due[i]);
        }
        String[] numbers = {"2", "3", "5", "6", "a", "b(4)"};
        int[] takes = {0, 1, 1, 0, 0, 0};
        for (int i = 0; i < numbers.length; i++) {
            Due.is("26: ?[3~5] and " + numbers[i], clash("?[3~5]", numbers[i]), takes[i]);
        }
        Due.is("26: an empty SPAN below what a hole takes", clash("?", "c(1,b(?[2~1]))"), 0);
        Due.is("26: no empty SPAN there", clash("?", "c(1,b(?[2~2]))"), 1);
        Due.is("26: an empty SPAN with itself", clash("b(?[2~1])", "b(?[2~1])"), 0);
    }

    private static void promise26Kinds() {
        Due.is("26: a KIND without HEADS", clash("?:4", "?"), 0);
        Due.is("26: a KIND without HEADS, below", clash("c(?:4,1)", "?"), 0);
        Due.is("26: a KIND with HEADS", clash("?:3", "?"), 1);
        Due.is("26: a KIND under another", clash("?:1", "?:2"), 1);
        Due.is("26: KINDS beside one another", clash("?:1", "?:3"), 0);
        Due.is("26: a KIND that numbers are not of", clash("?:1", "?[0~9]"), 0);
        Due.is("26: the KIND that numbers are of", clash("?:0", "?[0~9]"), 1);
        Due.is("26: a KIND and a SPAN that none is of", clash("?:1[0~9]", "?"), 0);
        Due.is("26: a HEAD above the KIND", clash("?:2", "b(1)"), 0);
        Due.is("26: a HEAD under the KIND", clash("?:1", "c(1,1)"), 1);
        Probe p = fresh().withPattern(0, "?");
        Due.is("26: no HEADS at all, but numbers", p.x().clash(0, 0), 1);
        p.x().kind(0);
        p.x().kind(1);
        p.withPattern(0, "?:1").withPattern(0, "?:2");
        Due.is("26: a KIND without HEADS", p.x().clash(1, 1), 0);
        p.x().head(0, 0, false);
        Due.is("26: a HEAD above it", p.x().clash(1, 1), 0);
        p.x().head(1, 0, false);
        Due.is("26: a HEAD of it", p.x().clash(1, 1), 1);
        Due.is("26: none of the KIND under it", p.x().clash(1, 2), 0);
        p.x().head(2, 4, true);
        Due.is("26: a HEAD of the KIND under it", p.x().clash(1, 2), 1);
        p = fullKinds();
        p.withPattern(0, "?:11").withPattern(0, "?:5");
        for (int h = 0; h < 19; h++) {
            p.x().head(h % 11, 0, false);
        }
        Due.is("26: the last KIND, without HEADS", p.x().clash(0, 1), 0);
        p.x().head(11, 0, false);
        Due.is("26: the last KIND, the last HEAD", p.x().clash(0, 1), 1);
        p = fullHeads().withPattern(0, "?:1");
        p.x().kind(1);
        p.withPattern(0, "?:2");
        Due.is("26: all HEADS, none of the KIND", p.x().clash(0, 1), 0);
        p = fresh();
        p.x().kind(0);
        p.x().head(1, 0, false);
        p.withPattern(0, "?:1");
        Due.is("26: the first HEAD alone", p.x().clash(0, 0), 1);
    }

    // ---- what comes out

    private static void promise27() {
        int[] patterns = {LOW, -1, 3, 5, 40, HIGH};
        for (int p : patterns) {
            refused("27: no PATTERN " + p, BoundaryTest::askedOnce, UNKNOWN, x -> x.print(p));
        }
        String high = "999999999999999999";
        String[] texts = {"0", "-0", "000000000000000000", "-000000000000000000", "-1", "007", "10", "-010", high,
            "-" + high, "100000000000000000", "?", "?0", "?9", "?:0", "?:000000000000000000", "?:000000000000000004",
            "?[0~0]", "?[-0~-00]", "?5:2[-" + high + "~" + high + "]", "? : 1 [ 5 ~ 3 ]", " a ", "h", "......a",
            "!\n..!a", "g ( 1 , 2 , 3 , b ( ?1 ) )", "c(c(1,c(2,3)),c(4,5))"};
        String[] due = {"0", "0", "0", "0", "-1", "7", "10", "-10", high, "-" + high, "100000000000000000", "?", "?0",
            "?9", "?", "?", "?:4", "?[0~0]", "?[0~0]", "?5:2[-" + high + "~" + high + "]", "?:1[5~3]", "a", "h",
            "......a", "!..!a", "g(1,2,3,b(?1))", "c(c(1,c(2,3)),c(4,5))"};
        for (int i = 0; i < texts.length; i++) {
            Probe p = Probe.usual().withPattern(0, texts[i]);
            Due.is("27: " + texts[i], p.x().print(0), due[i].length());
            Due.is("12: bytes of " + texts[i], p.x().count(8), due[i].length());
            Due.text("27: " + texts[i], p.out(), due[i]);
        }
        Probe p = fullKinds();
        for (int k = 0; k < 12; k++) {
            p.withPattern(0, "?:" + k);
            p.x().print(k);
            Due.text("27: KIND " + k, p.out(), k == 0 ? "?" : "?:" + k);
        }
        p = fullHeads();
        p.withPattern(0, "t(a,f,k,p)");
        p.x().print(0);
        Due.text("27: the last LETTER", p.out(), "t(a,f,k,p)");
        String deep = "b(".repeat(12) + "?" + ")".repeat(12);
        p = Probe.usual().withPattern(0, deep);
        p.x().print(0);
        Due.text("27: 12 deep", p.out(), deep);
    }

    private static void promise28() {
        int[] nodes = {LOW, -1, 6, 120, HIGH};
        for (int n : nodes) {
            refused("28: no node " + n, BoundaryTest::askedOnce, UNKNOWN, x -> x.printNode(n));
        }
        refused("28: no TREE", BoundaryTest::noTree, UNKNOWN, x -> x.printNode(0));
        String[] due = {"c(d(1,2),b(3))", "d(1,2)", "1", "2", "b(3)", "3"};
        Probe p = askedOnce();
        for (int n = 0; n < 6; n++) {
            Due.is("28: node " + n, p.x().printNode(n), due[n].length());
            Due.text("28: node " + n, p.out(), due[n]);
        }
        p = Probe.usual().withTree("1").withChain(0, 120, "1");
        Due.is("28: 120 nodes, deeper than a text", p.x().printNode(0), 119 * 3 + 1);
        Due.is("28: its last node", p.x().printNode(119), 1);
        Due.is("28: its last but one", p.x().printNode(118), 4);
        Due.text("28: its last but one", p.out(), "b(1)");
    }

    private static void promise29() {
        Probe p = fresh();
        int[] none = {LOW, -1, 0, 1, 999, 1000, 2999, 3000, HIGH};
        for (int i : none) {
            refused("29: of an empty one, " + i, BoundaryTest::fresh, NONE, x -> x.out(i));
        }
        p = askedOnce();
        Due.text("29: all bytes", p.out(), "d(?1,?2)");
        int[] places = {LOW, -1, 0, 7, 8, 9, HIGH};
        int[] due = {NONE, NONE, 'd', ')', NONE, NONE, NONE};
        for (int i = 0; i < places.length; i++) {
            int one = places[i];
            refused("29: out(" + one + ")", BoundaryTest::askedOnce, due[i], x -> x.out(one));
        }
        p.x().printNode(5);
        Due.is("29: a shorter one, its byte", p.x().out(0), '3');
        Due.is("29: a shorter one, none behind", p.x().out(1), NONE);
    }

    private static void promise30() {
        Probe p = askedOnce();
        Due.is("30: back", p.x().back(), 8);
        Due.is("30: the tape has it alone", p.x().count(7), 8);
        Due.is("30: the out has it, too", p.x().count(8), 8);
        Due.is("30: what was ASKED stays", p.x().fit(0), 4);
        Due.is("30: it is a PATTERN", p.x().pattern(0), 3);
        p = tapeOf(1000);
        Due.is("30: nothing comes in place of a full tape", p.x().back(), 0);
        Due.is("30: the tape is empty", p.x().count(7), 0);
        Due.is("30: the tape is empty", p.x().tree(), -11);
        Due.is("30: at 0", p.x().place(), 0);
    }

    /** A TREE of 52 nodes and more that prints 960 bytes and those of its second node. */
    private static Probe printing(String second) {
        String n = "123456789012345678";
        String four = "g(" + n + "," + n + "," + n + "," + n + ")";
        Probe p = Probe.usual().withTree("g(1,2,3,4)");
        for (int k = 4; k >= 2; k--) {
            p.withChange(k, "g(" + four + "," + four + "," + four + "," + four + ")");
        }
        return p.withChange(1, second);
    }

    private static void promise30Long() {
        String n = "123456789012345678";
        String[] seconds = {"7", "c(" + n + ",12345678901234567)", "c(" + n + "," + n + ")", "c(-" + n + "," + n + ")",
            "c(-" + n + ",-" + n + ")"};
        int[] lengths = {961, 999, 1000, 1001, 1002};
        for (int i = 0; i < seconds.length; i++) {
            int length = lengths[i];
            Probe p = printing(seconds[i]);
            int nodes = p.x().count(3);
            Due.is("28: so many bytes", p.x().printNode(0), length);
            Due.is("29: the last byte", p.x().out(length - 1), ')');
            Due.is("29: none behind it", p.x().out(length), NONE);
            Due.is("30: 1000 at most, of " + length, p.x().back(), Math.min(length, 1000));
            Due.is("30: on the tape, of " + length, p.x().count(7), Math.min(length, 1000));
            Due.is("30: in the out, of " + length, p.x().count(8), length);
            Due.is("30: room on the tape, of " + length, p.x().feed(BLANKS, BLANKS, BLANKS, BLANKS, BLANKS),
                length <= 980 ? length + 20 : FULL);
            Due.is("30: whole or not, of " + length, p.x().tree(), length <= 1000 ? nodes : -11);
            Due.is("30: where the rest is missing, of " + length, p.x().place(), length <= 1000 ? NONE : 1000);
        }
        longestOut();
    }

    /** All 120 nodes, 90 of them numbers of 19 bytes: nothing that is printed is longer. */
    private static void longestOut() {
        String n = "-999999999999999999";
        String four = "g(" + n + "," + n + "," + n + "," + n + ")";
        Probe p = Probe.usual().withTree("g(1,2,3,4)");
        for (int k = 4; k >= 1; k--) {
            p.withChange(k, "g(" + four + "," + four + "," + four + "," + four + ")");
        }
        p.withChange(84, "e(" + n + "," + n + "," + n + ")");
        for (int k = 0; k < 8; k++) {
            p.withChange(83 - k - k / 3 * 2, four);
        }
        int length = 90 * 19 + 30 * 3 + 29 * 3 + 2;
        Due.is("28: 120 nodes", p.x().count(3), 120);
        Due.is("28: the longest", p.x().printNode(0), length);
        Due.is("12: the longest", p.x().count(8), length);
        Due.is("29: its byte 999", p.x().out(999) > 0 ? 1 : 0, 1);
        Due.is("29: its byte 1000", p.x().out(1000) > 0 ? 1 : 0, 1);
        Due.is("29: its last byte", p.x().out(length - 1), ')');
        Due.is("29: none behind it", p.x().out(length), NONE);
        Due.is("30: its first 1000 bytes", p.x().back(), 1000);
        Due.is("30: the tape is full", p.x().feed(0, 0, 0, 0, 0), FULL);
        Due.is("30: the out stays", p.x().count(8), length);
    }
}
