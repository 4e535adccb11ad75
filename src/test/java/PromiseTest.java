/** For each promise of the document: ordinary inputs, the edges that it names, and wrong inputs. */
public final class PromiseTest {
    private static final int NONE = RuleNet.NONE, UNKNOWN = RuleNet.UNKNOWN, OUTSIDE = RuleNet.OUTSIDE,
        STATE = RuleNet.STATE, FULL = RuleNet.FULL;
    private static final int LOW = Integer.MIN_VALUE, HIGH = Integer.MAX_VALUE;

    private static int wrong = 0;
    private static int answers = 0;

    private static void due(String what, long got, long want) {
        answers++;
        if (got != want) {
            wrong++;
            System.out.println(what + " answered " + got + ", due is " + want);
        }
    }

    public static void main(String[] args) {
        promise1();
        promise2();
        promise3();
        promise4();
        promise5();
        promise6();
        promise7();
        promise7Faults();
        promise7Blanks();
        promise8();
        promise9();
        promise10();
        promise11();
        promise12();
        promise13();
        promise14();
        promise15();
        promise16();
        promise17();
        promise18();
        promise19();
        promise20();
        promise20Spent();
        promise20Many();
        promise21();
        promise22();
        promise23();
        promise24();
        promise25();
        promise26();
        promise27();
        promise28();
        promise29();
        promise30();
        System.out.println(answers + " answers, " + wrong + " not as due");
        if (wrong != 0) {
            System.exit(1);
        }
    }

    // ---- helpers

    private static void put(RuleNet x, String text) {
        int left = text.length();
        int before = x.count(7);
        for (int i = 0; i < text.length(); i += 20) {
            int[] f = new int[5];
            for (int k = 0; k < 20; k++) {
                int b = i + k < text.length() ? text.charAt(i + k) & 255 : 0;
                f[k / 4] = f[k / 4] << 8 | b;
            }
            x.feed(f[0], f[1], f[2], f[3], f[4]);
            left -= 20;
        }
        if (left != 0) {
            x.cut(before + text.length());
        }
    }

    private static int pattern(RuleNet x, int rank, String text) {
        put(x, text);
        return x.pattern(rank);
    }

    private static int tree(RuleNet x, String text) {
        put(x, text);
        return x.tree();
    }

    private static int change(RuleNet x, int node, String text) {
        put(x, text);
        return x.change(node);
    }

    private static String out(RuleNet x) {
        StringBuilder s = new StringBuilder();
        for (int i = 0; x.out(i) != NONE; i++) {
            s.append((char) x.out(i));
        }
        return s.toString();
    }

    private static void dueText(String what, String got, String want) {
        due(what + " <" + got + "> for <" + want + ">", got.equals(want) ? 1 : 0, 1);
    }

    /**
     * KINDS 1 under 0, 2 under 1, 3 under 0, 4 under 3 (without HEADS). HEADS: a (0, no PARTS), b (1, 1),
     * c (2, 2), d (3, 2, LOOSE), e (0, 3, LOOSE), f (0, 4, LOOSE), g (1, 4), h (0, 0, LOOSE).
     */
    private static RuleNet usual() {
        RuleNet x = new RuleNet();
        x.kind(0);
        x.kind(1);
        x.kind(0);
        x.kind(3);
        x.head(0, 0, false);
        x.head(1, 1, false);
        x.head(2, 2, false);
        x.head(3, 2, true);
        x.head(0, 3, true);
        x.head(0, 4, true);
        x.head(1, 4, false);
        x.head(0, 0, true);
        return x;
    }

    private static void dueFault(String text, int fault, int place) {
        RuleNet x = usual();
        due("pattern " + text, pattern(x, 0, text), -10 - fault);
        due("place of " + text, x.place(), place);
        due("the tape after " + text, x.count(7), 0);
        due("patterns after " + text, x.count(2), 0);
    }

    private static void dueTreeFault(String text, int fault, int place) {
        RuleNet x = usual();
        tree(x, "c(1,2)");
        due("tree " + text, tree(x, text), -10 - fault);
        due("place of " + text, x.place(), place);
        due("the tape after " + text, x.count(7), 0);
        due("the tree after " + text, x.count(3), 3);
    }

    private static void duePrinted(String text, String printed) {
        RuleNet x = usual();
        int p = pattern(x, 0, text);
        due("pattern " + text, p, 0);
        due("print " + text, x.print(p), printed.length());
        dueText("printed " + text, out(x), printed);
    }

    // ---- kinds, heads, texts

    private static void promise1() {
        RuleNet x = new RuleNet();
        int[] counts = {1, 0, 0, 0, 0, 0, 0, 0, 0};
        for (int what = 0; what < counts.length; what++) {
            due("1: count(" + what + ")", x.count(what), counts[what]);
        }
        due("1: place", x.place(), NONE);
        due("1: out", x.out(0), NONE);
        due("1: ask", x.ask(), STATE);
        due("1: fit", x.fit(0), STATE);
        due("1: told", x.told(0, 0), UNKNOWN);
        due("1: node", x.node(0, 0), UNKNOWN);
        due("1: isUnder", x.isUnder(0, 0), 1);
        due("1: back", x.back(), 0);
        due("1: constants", RuleNet.NONE, -1);
        due("1: constants", RuleNet.UNKNOWN, -1001);
        due("1: constants", RuleNet.OUTSIDE, -1002);
        due("1: constants", RuleNet.STATE, -1003);
        due("1: constants", RuleNet.FULL, -1004);
        RuleNet other = new RuleNet();
        other.kind(0);
        due("1: objects have nothing in common", x.count(0), 1);
    }

    private static void promise2() {
        RuleNet x = new RuleNet();
        due("2: unknown", x.kind(1), UNKNOWN);
        due("2: unknown", x.kind(-1), UNKNOWN);
        due("2: unknown", x.kind(LOW), UNKNOWN);
        due("2: unknown", x.kind(HIGH), UNKNOWN);
        for (int k = 1; k < 12; k++) {
            due("2: kind", x.kind(k - 1), k);
        }
        due("2: full", x.kind(0), FULL);
        due("2: unknown ahead of full", x.kind(12), UNKNOWN);
        due("2: count", x.count(0), 12);
        due("2: a long chain", x.isUnder(11, 0), 1);
        due("2: a long chain", x.isUnder(0, 11), 0);
    }

    private static void promise3() {
        RuleNet x = usual();
        due("3: itself", x.isUnder(2, 2), 1);
        due("3: told", x.isUnder(2, 1), 1);
        due("3: further", x.isUnder(2, 0), 1);
        due("3: not up", x.isUnder(1, 2), 0);
        due("3: not beside", x.isUnder(3, 1), 0);
        due("3: not beside", x.isUnder(4, 2), 0);
        due("3: 0 is under itself alone", x.isUnder(0, 1), 0);
        due("3: unknown a", x.isUnder(5, 0), UNKNOWN);
        due("3: unknown b", x.isUnder(0, 5), UNKNOWN);
        due("3: unknown a", x.isUnder(-1, 0), UNKNOWN);
        due("3: unknown b", x.isUnder(0, LOW), UNKNOWN);
        due("3: unknown, though like", x.isUnder(7, 7), UNKNOWN);
    }

    private static void promise4() {
        RuleNet x = new RuleNet();
        due("4: unknown kind", x.head(1, 0, false), UNKNOWN);
        due("4: unknown kind", x.head(-1, 0, false), UNKNOWN);
        due("4: unknown ahead of outside", x.head(1, 5, false), UNKNOWN);
        due("4: outside", x.head(0, 5, false), OUTSIDE);
        due("4: outside", x.head(0, -1, true), OUTSIDE);
        due("4: none yet", x.count(1), 0);
        for (int h = 0; h < 20; h++) {
            due("4: head", x.head(0, h % 5, h % 2 == 0), h);
        }
        due("4: full", x.head(0, 0, false), FULL);
        due("4: outside ahead of full", x.head(0, 5, false), OUTSIDE);
        due("4: unknown ahead of full", x.head(3, 0, false), UNKNOWN);
        due("4: count", x.count(1), 20);
        due("4: the last is t", tree(x, "t(1,2,3,4)"), 5);
        due("4: the last is t", x.node(0, 0), 19);
    }

    private static void promise5() {
        RuleNet x = new RuleNet();
        due("5: feed", x.feed(0x37202020, 0x20202020, 0x20202020, 0x20202020, 0x20202020), 20);
        due("5: tree", x.tree(), 1);
        due("5: the highest byte is the first", x.node(0, 1), 7);
        x.feed(0x20202020, 0x20202020, 0x20202020, 0x20202020, 0x20202038);
        due("5: the lowest byte of the last", x.tree(), 1);
        due("5: the lowest byte of the last", x.node(0, 1), 8);
        x.feed(0x31323334, 0x35363738, 0x39202020, 0x20202020, 0x20202020);
        x.tree();
        due("5: one after the other", x.node(0, 1), 123456789);
        x.feed(0xff202020, 0, 0, 0, 0);
        due("5: bytes above 127 stay bytes", x.tree(), -11);
        due("5: bytes above 127 stay bytes", x.place(), 0);
        for (int n = 20; n <= 1000; n += 20) {
            due("5: feed", x.feed(0x20202020, 0x20202020, 0x20202020, 0x20202020, 0x20202020), n);
        }
        due("5: full", x.feed(0, 0, 0, 0, 0), FULL);
        due("5: full changes nothing", x.count(7), 1000);
        x.cut(981);
        due("5: no room for twenty", x.feed(0, 0, 0, 0, 0), FULL);
        x.cut(980);
        due("5: just room", x.feed(0x20202020, 0x20202020, 0x20202020, 0x20202020, 0x20202031), 1000);
        due("5: all 1000 bytes are taken", x.tree(), 1);
        due("5: all 1000 bytes are taken", x.node(0, 1), 1);
    }

    private static void promise6() {
        RuleNet x = new RuleNet();
        due("6: of nothing", x.cut(0), 0);
        due("6: outside", x.cut(1), OUTSIDE);
        due("6: outside", x.cut(-1), OUTSIDE);
        put(x, "12345678901234567890");
        due("6: all stay", x.cut(20), 0);
        due("6: outside", x.cut(21), OUTSIDE);
        due("6: outside", x.cut(HIGH), OUTSIDE);
        due("6: outside", x.cut(LOW), OUTSIDE);
        due("6: cut", x.cut(3), 17);
        due("6: what is left", x.count(7), 3);
        x.tree();
        due("6: the first ones are kept", x.node(0, 1), 123);
        put(x, "55");
        due("6: all go", x.cut(0), 2);
        due("6: nothing is left", x.tree(), -11);
    }

    private static void promise7() {
        RuleNet x = usual();
        tree(x, "7");
        x.ask();
        put(x, "?1");
        due("7: rank outside", x.pattern(-1), OUTSIDE);
        due("7: rank outside", x.pattern(1001), OUTSIDE);
        due("7: rank outside", x.pattern(LOW), OUTSIDE);
        due("7: the tape stays", x.count(7), 2);
        due("7: refused, what was asked stays", x.fit(0), NONE);
        due("7: the first", x.pattern(1000), 0);
        due("7: what was asked is gone", x.fit(0), STATE);
        due("7: the tape is empty", x.count(7), 0);
        x.ask();
        due("7: fault", pattern(x, 0, "("), -11);
        due("7: a fault leaves what was asked", x.fit(0), 0);
        for (int p = 1; p < 40; p++) {
            due("7: the next", pattern(x, 0, "?"), p);
        }
        put(x, "(((");
        due("7: outside ahead of full", x.pattern(1001), OUTSIDE);
        due("7: full, ahead of the fault", x.pattern(0), FULL);
        due("7: full, the tape stays", x.count(7), 3);
        due("7: full, the place stays", x.place(), NONE);
        x.cut(0);
        x.drop(17);
        x.drop(5);
        due("7: the least free number", pattern(x, 3, "a"), 5);
        due("7: the next free number", pattern(x, 3, "a"), 17);
        due("7: count", x.count(2), 40);
    }

    private static void promise7Faults() {
        dueFault("", 1, 0);
        dueFault("   ", 1, 3);
        dueFault(")", 1, 0);
        dueFault(",a", 1, 0);
        dueFault("A", 1, 0);
        dueFault("a\t", 1, 1);
        dueFault("\r", 1, 0);
        dueFault("a a", 1, 2);
        dueFault("a)", 1, 1);
        dueFault("a,", 1, 1);
        dueFault("a7", 1, 1);
        dueFault("7a", 1, 1);
        dueFault("7(a)", 1, 1);
        dueFault("?(a)", 1, 1);
        dueFault("-", 1, 1);
        dueFault("- 1", 1, 1);
        dueFault("--1", 1, 1);
        dueFault("1 2", 1, 2);
        dueFault("c()", 1, 2);
        dueFault("c(,a)", 1, 2);
        dueFault("c(a;a)", 1, 3);
        dueFault("c(a(", 6, 3);
        dueFault("c(a,", 1, 4);
        dueFault("c(a,a", 1, 5);
        dueFault("c(a", 1, 3);
        dueFault("c(", 1, 2);
        dueFault(".", 1, 1);
        dueFault("..", 1, 2);
        dueFault("...a", 1, 3);
        dueFault(". .a", 1, 1);
        dueFault(".a", 1, 1);
        dueFault("!", 1, 1);
        dueFault("!)", 1, 1);
        dueFault("?12", 1, 2);
        dueFault("? 1", 1, 2);
        dueFault("?:", 1, 2);
        dueFault("?:-1", 1, 2);
        dueFault("?:x", 1, 2);
        dueFault("?1:2:3", 1, 4);
        dueFault("?[", 1, 2);
        dueFault("?[]", 1, 2);
        dueFault("?[1]", 1, 3);
        dueFault("?[1~]", 1, 4);
        dueFault("?[1~2", 1, 5);
        dueFault("?[1~2~3]", 1, 5);
        dueFault("?[1~2][3~4]", 1, 6);
        dueFault("?[1~2]:1", 1, 6);
        dueFault("?[1 2~3]", 1, 4);
        dueFault("?[-~3]", 1, 3);
        dueFault("?[a~3]", 1, 2);
        dueFault("i", 2, 0);
        dueFault("z", 2, 0);
        dueFault("c(a,u)", 2, 4);
        dueFault("1234567890123456789", 3, 0);
        dueFault("-1234567890123456789", 3, 0);
        dueFault("c(1, 0000000000000000000)", 3, 5);
        dueFault("?[1~1234567890123456789]", 3, 4);
        dueFault("?[-1234567890123456789~1]", 3, 2);
        dueFault("?:5", 3, 2);
        dueFault("? : 12", 3, 4);
        dueFault("?:0000000000000000001", 3, 2);
        dueFault("?:999999999999999999", 3, 2);
        dueFault("b", 6, 1);
        dueFault("b  ", 6, 3);
        dueFault("b a", 6, 2);
        dueFault("b)", 6, 1);
        dueFault("bz", 6, 1);
        dueFault("b7", 6, 1);
        dueFault("a(a)", 6, 1);
        dueFault("a (", 6, 2);
        dueFault("c(a)", 6, 3);
        dueFault("c(a )", 6, 4);
        dueFault("c(a,a,a)", 6, 5);
        dueFault("b(7,", 6, 3);
        dueFault("c(b(?,?),?)", 6, 5);
        faultsOfSize();
        faultsOfDepth();
    }

    private static void faultsOfSize() {
        String g = "g(1,2,3,4)";
        // 1 and three times 5, then 8: 24 nodes, and none may follow.
        String most = "g(" + g + "," + g + "," + g + ",g(1,2,3,g(1,2,3,";
        due("7: 24 nodes", pattern(usual(), 0, "g(" + g + "," + g + "," + g + ",g(1,!2,..!?,4))"), 0);
        dueFault(most + "4)))", 4, most.length());
        dueFault(most + "?", 4, most.length());
        dueFault(most + "  ..4)))", 4, most.length() + 2);
        dueFault(most + "!4)))", 4, most.length());
        dueFault(most + "b(4))))", 4, most.length());
        dueFault(most + "z", 2, most.length());
        dueFault(most + "1234567890123456789", 3, most.length());
        dueFault(most + "-1234567890123456789", 3, most.length());
        dueFault(most + "-12", 4, most.length());
        dueFault(most + ")", 1, most.length());
    }

    private static void faultsOfDepth() {
        String twelve = "b(".repeat(12);
        due("7: 12 open", pattern(usual(), 0, twelve + "a" + ")".repeat(12)), 0);
        dueFault(twelve + "b(a)", 5, 25);
        dueFault(twelve + "b (a)", 5, 26);
        dueFault(twelve + "!a", 5, 24);
        dueFault(twelve + " ..a", 5, 25);
        dueFault(twelve + "a(", 6, 25);
        dueFault(twelve + "b)", 6, 25);
        due("7: 12 over", pattern(usual(), 0, "..".repeat(6) + "!".repeat(6) + "a"), 0);
        dueFault("..".repeat(6) + "!".repeat(6) + "b(a)", 5, 19);
        dueFault("..".repeat(6) + "!".repeat(7) + "a", 5, 18);
        dueFault("!".repeat(12) + "..a", 5, 12);
        due("7: beside, not within", pattern(usual(), 0, "c(" + "!".repeat(11) + "a,!!!!!a)"), 0);
        dueFault("c(" + "!".repeat(11) + "a,!!!!!!!!!!!!a)", 4, 26);
    }

    private static void promise7Blanks() {
        duePrinted(" c ( ?1 : 1 , ? [ -1 ~ 2 ] ) ", "c(?1:1,?[-1~2])");
        duePrinted("\nc\n(\n?\n:\n1\n,\n..\n!\na\n)\n", "c(?:1,..!a)");
        duePrinted("?1[1~2]", "?1[1~2]");
        duePrinted("?9", "?9");
        duePrinted("?:000000000000000001", "?:1");
        duePrinted("?[-999999999999999999~999999999999999999]", "?[-999999999999999999~999999999999999999]");
        duePrinted("....a", "....a");
        duePrinted("!!a", "!!a");
    }

    private static void promise8() {
        RuleNet x = usual();
        due("8: unknown", x.drop(0), UNKNOWN);
        pattern(x, 1, "?1");
        pattern(x, 1, "a");
        pattern(x, 1, "?");
        tree(x, "a");
        x.ask();
        due("8: unknown", x.drop(3), UNKNOWN);
        due("8: unknown", x.drop(-1), UNKNOWN);
        due("8: unknown", x.drop(40), UNKNOWN);
        due("8: unknown", x.drop(HIGH), UNKNOWN);
        due("8: refused, what was asked stays", x.fit(0), 0);
        due("8: drop", x.drop(1), 2);
        due("8: what was asked is gone", x.fit(0), STATE);
        due("8: no more", x.drop(1), UNKNOWN);
        due("8: no more", x.told(1, 0), UNKNOWN);
        due("8: no more", x.at(1, 0), UNKNOWN);
        due("8: no more", x.print(1), UNKNOWN);
        due("8: no more", x.shared(1, 0), UNKNOWN);
        due("8: no more asked", x.ask(), 2);
        due("8: out of the net", x.count(4), 2);
        due("8: steps", x.count(5), 1);
        due("8: drop", x.drop(0), 1);
        due("8: drop", x.drop(2), 0);
    }

    private static void promise9() {
        RuleNet x = usual();
        due("9: a number", tree(x, "-12"), 1);
        due("9: a head", tree(x, " a\n"), 1);
        pattern(x, 0, "?");
        x.ask();
        due("9: fault", tree(x, "?"), -11);
        due("9: a fault leaves what was asked", x.fit(0), 0);
        due("9: a fault leaves the tree", x.node(0, 0), 0);
        due("9: tree", tree(x, "c(b(1),e(2,3,a))"), 7);
        due("9: what was asked is gone", x.fit(0), STATE);
        due("9: place", x.place(), NONE);
        String ones = "g(1,1,1,1)";
        String group = "g(" + ones + "," + ones + "," + ones + "," + ones + ")";
        String most = "g(" + group + "," + group + "," + group + ",g(" + group + "," + group + ",b(c(" + ones + ","
            + ones + ")),";
        due("9: 120 nodes", tree(x, most + "a))"), 120);
        due("9: the last", x.node(119, 0), 0);
        due("9: 121 nodes", tree(x, most + " b( a)))"), -14);
        due("9: the 121st", x.place(), most.length() + 4);
        treeFaults();
    }

    private static void treeFaults() {
        dueTreeFault("", 1, 0);
        dueTreeFault("?", 1, 0);
        dueTreeFault("..a", 1, 0);
        dueTreeFault("!a", 1, 0);
        dueTreeFault("c(a,?)", 1, 4);
        dueTreeFault("c(a,!a)", 1, 4);
        dueTreeFault("c(.", 1, 2);
        dueTreeFault("a a", 1, 2);
        dueTreeFault("w", 2, 0);
        dueTreeFault("b(12345678901234567890)", 3, 2);
        dueTreeFault("b(".repeat(13) + "a", 5, 25);
        dueTreeFault("b(".repeat(12) + "a(", 6, 25);
        dueTreeFault("b?", 6, 1);
        dueTreeFault("c(a)", 6, 3);
        dueTreeFault("h(", 6, 1);
    }

    private static void promise10() {
        RuleNet x = usual();
        put(x, "7");
        due("10: no tree", x.change(0), UNKNOWN);
        due("10: the tape stays", x.count(7), 1);
        x.cut(0);
        tree(x, "c(b(1),c(a,2))");
        pattern(x, 0, "?");
        x.ask();
        put(x, "(");
        due("10: unknown", x.change(6), UNKNOWN);
        due("10: unknown", x.change(-1), UNKNOWN);
        due("10: unknown, the tape stays", x.count(7), 1);
        due("10: fault", x.change(1), -11);
        due("10: fault, place", x.place(), 0);
        due("10: fault, the tape is empty", x.count(7), 0);
        due("10: fault, the tree stays", x.count(3), 6);
        due("10: fault, what was asked stays", x.fit(0), 0);
        due("10: fault 6", change(x, 1, "c(a)"), -16);
        due("10: grows", change(x, 1, "c(5,b(6))"), 8);
        due("10: what was asked is gone", x.fit(0), STATE);
        x.printNode(0);
        dueText("10: grows", out(x), "c(c(5,b(6)),c(a,2))");
        due("10: parents anew", x.node(5, 2), 0);
        due("10: parents anew", x.node(7, 2), 5);
        due("10: sizes anew", x.node(0, 3), 8);
        due("10: shrinks", change(x, 1, "9"), 5);
        x.printNode(0);
        dueText("10: shrinks", out(x), "c(9,c(a,2))");
        due("10: the last", change(x, 4, "b(h)"), 6);
        x.printNode(0);
        dueText("10: the last", out(x), "c(9,c(a,b(h)))");
        due("10: the first", change(x, 0, "g(1,2,3,4)"), 5);
        due("10: the first has no parent", x.node(0, 2), NONE);
        deepChanges();
    }

    private static void deepChanges() {
        RuleNet x = usual();
        String twelve = "b(".repeat(12) + "a" + ")".repeat(12);
        due("10: deep", tree(x, twelve), 13);
        int nodes = 13;
        for (int k = 0; k < 8; k++) {
            nodes += 12;
            due("10: deeper than a text may be", change(x, nodes - 13, twelve), nodes);
        }
        due("10: 109 nodes", x.count(3), 109);
        due("10: one too many", change(x, 108, "b(".repeat(12) + "a"), -14);
        due("10: one too many, place", x.place(), 24);
        due("10: just enough", change(x, 108, "b(".repeat(11) + "a" + ")".repeat(11)), 120);
        due("10: full", change(x, 119, "b(a)"), -14);
        due("10: full, place", x.place(), 2);
        due("10: full, but as large", change(x, 119, "3"), 120);
        due("10: printed", x.printNode(0), 119 * 3 + 1);
        due("10: back", x.back(), 358);
        due("10: too deep to be read", x.tree(), -15);
        due("10: too deep to be read", x.place(), 25);
        due("10: a pattern at the end", pattern(x, 0, "..3"), 0);
        due("10: a pattern at the end", x.ask(), 1);
        due("10: found everywhere", x.found(0, 119), 119);
        due("10: the whole may be replaced", change(x, 0, "7"), 1);
    }

    private static void promise11() {
        RuleNet x = usual();
        due("11: none such", x.place(), NONE);
        tree(x, "c(a;");
        due("11: tree", x.place(), 3);
        pattern(x, 1001, "a");
        due("11: refused", x.place(), 3);
        due("11: refused", x.change(9), UNKNOWN);
        due("11: refused", x.place(), 3);
        x.tree();
        due("11: it had none", x.place(), NONE);
        pattern(x, 0, "c(a,a))");
        due("11: pattern", x.place(), 6);
        pattern(x, 0, "a");
        due("11: it had none", x.place(), NONE);
        change(x, 0, "a,");
        due("11: change", x.place(), 1);
        change(x, 0, "b(1)");
        due("11: it had none", x.place(), NONE);
    }

    private static void promise12() {
        RuleNet x = usual();
        pattern(x, 0, "c(?1,?1)");
        pattern(x, 0, "c(?,?)");
        pattern(x, 0, "c(?,?:1)");
        pattern(x, 0, "c(?1,?1)");
        pattern(x, 0, "d(?,?)");
        pattern(x, 0, "..a");
        pattern(x, 0, "!a");
        pattern(x, 0, "h");
        pattern(x, 0, "7");
        tree(x, "c(1,2)");
        x.printNode(1);
        put(x, "12345");
        int[] counts = {5, 8, 9, 3, 5, 6, 13, 5, 1};
        for (int what = 0; what < counts.length; what++) {
            due("12: count(" + what + ")", x.count(what), counts[what]);
        }
        due("12: outside", x.count(9), OUTSIDE);
        due("12: outside", x.count(-1), OUTSIDE);
        due("12: outside", x.count(LOW), OUTSIDE);
        due("12: outside", x.count(HIGH), OUTSIDE);
        x.drop(1);
        due("12: a step less", x.count(5), 5);
        x.drop(0);
        due("12: shared steps stay", x.count(5), 5);
        x.drop(3);
        due("12: now they go", x.count(5), 4);
        stepsOfMarks();
    }

    private static void dueSteps(String what, int steps, String... texts) {
        RuleNet x = usual();
        for (String text : texts) {
            pattern(x, 0, text);
        }
        due("12: steps of " + what, x.count(5), steps);
    }

    private static void stepsOfMarks() {
        dueSteps("like holes of other names", 3, "c(?1,?2)", "c(?,?)", "c(?3,?)");
        dueSteps("kinds", 2, "?", "?:1", "?:0");
        dueSteps("spans", 4, "?", "?[0~1]", "?[0~2]", "?[1~2]", "?[-0~01]");
        dueSteps("a span of 0 and none", 2, "?", "?[0~0]");
        dueSteps("numbers", 2, "7", "07", "-7");
        dueSteps("a number and a span", 2, "7", "?[7~7]");
        dueSteps("again of another hole", 5, "g(?1,?2,?1,?2)", "g(?2,?1,?2,?1)");
        dueSteps("again of another hole", 8, "g(?1,?2,?1,?2)", "g(?1,?2,?2,?2)", "g(?1,?2,?1,?)");
        dueSteps("again with a kind", 4, "c(?1,?1)", "c(?1,?1:1)");
        dueSteps("again with a span", 4, "c(?1,?1)", "c(?1,?1[1~2])");
        dueSteps("again holes count, too", 6, "g(?1,?1,?2,?2)", "g(?3,?3,?4,?3)");
        dueSteps("heads", 3, "a", "b(?)", "a");
        dueSteps("holes behind spans", 3, "?[1~2]", "?", "?[1~5]", "?");
    }

    private static void promise13() {
        RuleNet x = usual();
        int p = pattern(x, 17, "e(?1,d(?2,?1),..!g(?,h,?0,?[1~2]))");
        int q = pattern(x, 1000, "c(?,7)");
        int[] told = {17, 12, 0, 4, 3, 5};
        int[] toldOther = {1000, 3, 1, 0, 0, 0};
        for (int what = 0; what < 6; what++) {
            due("13: told " + what, x.told(p, what), told[what]);
            due("13: told " + what, x.told(q, what), toldOther[what]);
        }
        x.drop(p);
        due("13: a number used again", pattern(x, 2, "c(?5,?5)"), p);
        int[] toldAnew = {2, 3, 1, 2, 1, 0};
        for (int what = 0; what < 6; what++) {
            due("13: told anew " + what, x.told(p, what), toldAnew[what]);
        }
        due("13: outside", x.told(p, 6), OUTSIDE);
        due("13: outside", x.told(p, -1), OUTSIDE);
        due("13: unknown", x.told(2, 0), UNKNOWN);
        due("13: unknown ahead of outside", x.told(-1, 6), UNKNOWN);
        due("13: unknown", x.told(HIGH, 0), UNKNOWN);
    }

    private static void promise14() {
        RuleNet x = usual();
        tree(x, "c(b(-1001),d(999999999999999999,a))");
        long[][] nodes = {{2, 0, -1, 6, 2}, {1, 0, 0, 2, 1}, {-1, -1001, 1, 1, 0}, {3, 0, 0, 3, 3},
            {-1, 999999999999999999L, 3, 1, 0}, {0, 0, 3, 1, 0}};
        for (int n = 0; n < nodes.length; n++) {
            for (int what = 0; what < 5; what++) {
                due("14: node " + n + " " + what, x.node(n, what), nodes[n][what]);
            }
        }
        due("14: outside", x.node(0, 5), OUTSIDE);
        due("14: outside", x.node(0, -1), OUTSIDE);
        due("14: unknown", x.node(6, 0), UNKNOWN);
        due("14: unknown", x.node(-1, 0), UNKNOWN);
        due("14: unknown ahead of outside", x.node(LOW, 5), UNKNOWN);
    }

    private static void promise15() {
        RuleNet x = usual();
        tree(x, "g(d(1,2),d(1,2),d(2,1),c(1,d(1,2)))");
        due("15: itself", x.alike(0, 0), 1);
        due("15: alike", x.alike(1, 4), 1);
        due("15: either way", x.alike(4, 1), 1);
        due("15: loose heads in their order", x.alike(1, 7), 0);
        due("15: deeper", x.alike(4, 12), 1);
        due("15: numbers", x.alike(2, 11), 1);
        due("15: other numbers", x.alike(2, 3), 0);
        due("15: a head and a number", x.alike(1, 2), 0);
        due("15: other heads", x.alike(1, 10), 0);
        due("15: unknown", x.alike(0, 15), UNKNOWN);
        due("15: unknown", x.alike(15, 0), UNKNOWN);
        due("15: unknown", x.alike(-1, -1), UNKNOWN);
        tree(x, "c(a,0)");
        due("15: a head without parts and 0", x.alike(1, 2), 0);
        tree(x, "c(-0,0)");
        due("15: 0 and -0", x.alike(1, 2), 1);
    }

    // ---- asking

    private static int fits(String patternText, String treeText) {
        RuleNet x = usual();
        pattern(x, 0, patternText);
        tree(x, treeText);
        return x.ask();
    }

    private static void promise16() {
        RuleNet x = usual();
        due("16: no tree", x.ask(), STATE);
        tree(x, "a");
        due("16: no patterns", x.ask(), 0);
        due("16: nothing fits", x.fit(0), NONE);
        pattern(x, 0, "?");
        pattern(x, 0, "a");
        pattern(x, 0, "!a");
        due("16: two of three", x.ask(), 2);
        due("16: once more", x.ask(), 2);
        due("16: head", fits("c(a,1)", "c(a,1)"), 1);
        due("16: other part", fits("c(a,1)", "c(a,2)"), 0);
        due("16: parts in their order", fits("c(1,a)", "c(a,1)"), 0);
        due("16: loose", fits("d(1,a)", "d(a,1)"), 1);
        due("16: loose below", fits("c(e(1,2,3),f(a,h,1,2))", "c(e(3,1,2),f(2,1,h,a))"), 1);
        due("16: loose, not all", fits("e(1,1,2)", "e(1,2,2)"), 0);
        due("16: number", fits("007", "7"), 1);
        due("16: number", fits("0", "-0"), 1);
        due("16: 0 is no head", fits("0", "a"), 0);
        due("16: kind", fits("?:1", "c(1,1)"), 1);
        due("16: kind", fits("?:2", "b(1)"), 0);
        due("16: kind of a number", fits("?:1", "7"), 0);
        due("16: kind 0", fits("?:0", "c(1,1)"), 1);
        due("16: span", fits("?[1~3]", "1"), 1);
        due("16: span", fits("?[1~3]", "3"), 1);
        due("16: span", fits("?[1~3]", "0"), 0);
        due("16: span", fits("?[1~3]", "4"), 0);
        due("16: span of a head", fits("?[0~3]", "a"), 0);
        due("16: empty span", fits("?[3~1]", "2"), 0);
        due("16: alike", fits("c(?1,?1)", "c(b(1),b(1))"), 1);
        due("16: not alike", fits("c(?1,?1)", "c(b(1),b(2))"), 0);
        due("16: not named", fits("c(?,?)", "c(b(1),b(2))"), 1);
        due("16: loose trees in their order are alike", fits("c(?1,?1)", "c(d(1,2),d(2,1))"), 0);
        due("16: again with a kind", fits("c(?1,?1:1)", "c(a,a)"), 0);
        due("16: below, itself", fits("..c(?,?)", "c(1,2)"), 1);
        due("16: below, deep", fits("..7", "c(a,b(b(7)))"), 1);
        due("16: below, nowhere", fits("..8", "c(a,b(b(7)))"), 0);
        due("16: not", fits("!8", "c(a,b(b(7)))"), 1);
        due("16: not, though deep", fits("!7", "c(a,b(b(7)))"), 0);
        due("16: not, itself", fits("!?", "7"), 0);
        due("16: not not", fits("!!7", "c(a,b(7))"), 0);
        due("16: not not", fits("!!7", "7"), 1);
        due("16: not with what is filled", fits("c(?1,!?1)", "c(1,b(2))"), 1);
        due("16: not with what is filled", fits("c(?1,!?1)", "c(1,b(1))"), 0);
        due("16: not fills nothing", fits("c(!b(?1),?1)", "c(1,2)"), 1);
        due("16: not, then filled", fits("c(!?1,?1)", "c(1,2)"), 0);
        due("16: a choice is made again", fits("c(..?1[0~9],b(?1))", "c(g(1,2,3,4),b(4))"), 1);
        due("16: a loose choice is made again", fits("c(d(?1,?2),?2)", "c(d(5,6),5)"), 1);
    }

    private static void promise17() {
        RuleNet x = usual();
        due("17: nothing asked", x.fit(0), STATE);
        due("17: nothing asked", x.fit(-1), STATE);
        int[] ranks = {5, 0, 1000, 5, 3, 0};
        for (int rank : ranks) {
            pattern(x, rank, "?");
        }
        pattern(x, 2, "7");
        tree(x, "a");
        due("17: a new tree is not asked", x.fit(0), STATE);
        due("17: ask", x.ask(), 6);
        int[] order = {1, 5, 4, 0, 3, 2};
        for (int i = 0; i < 6; i++) {
            due("17: fit " + i, x.fit(i), order[i]);
        }
        due("17: not so many", x.fit(6), NONE);
        due("17: not so many", x.fit(HIGH), NONE);
        due("17: below 0", x.fit(-1), NONE);
        due("17: below 0", x.fit(LOW), NONE);
    }

    private static void promise18() {
        RuleNet x = usual();
        pattern(x, 0, "d(?1,?2)");
        pattern(x, 0, "d(?1,?)");
        pattern(x, 0, "7");
        pattern(x, 0, "..?1");
        pattern(x, 0, "..?");
        due("18: unknown", x.fillings(5), UNKNOWN);
        due("18: unknown", x.fillings(-1), UNKNOWN);
        due("18: nothing asked", x.fillings(0), STATE);
        tree(x, "d(b(1),b(1))");
        x.ask();
        due("18: both orders", x.fillings(0), 2);
        due("18: both orders", x.fillings(1), 2);
        due("18: none", x.fillings(2), 0);
        due("18: all nodes", x.fillings(3), 5);
        due("18: like ones once", x.fillings(4), 1);
        pattern(x, 0, "..?0");
        x.ask();
        due("18: unlike in name 0 alone", x.fillings(5), 5);
        x.drop(5);
        x.ask();
        due("18: unknown", x.fillings(LOW), UNKNOWN);
        tree(x, "7");
        due("18: nothing asked", x.fillings(0), STATE);
    }

    private static void promise19() {
        RuleNet x = usual();
        pattern(x, 0, "e(?1,?2,a)");
        due("19: unknown pattern", x.filling(1, 0, 0), UNKNOWN);
        due("19: nothing asked", x.filling(0, 0, 0), STATE);
        due("19: nothing asked, ahead of the filling", x.filling(0, 99, 0), STATE);
        due("19: nothing asked, ahead of the filling", x.filling(0, -1, 0), STATE);
        due("19: nothing asked, ahead of the name", x.filling(0, 0, -1), STATE);
        due("19: nothing asked, ahead of the name", x.filling(0, 0, 10), STATE);
        due("19: nothing asked, ahead of filling and name", x.filling(0, 99, HIGH), STATE);
        due("19: nothing asked, the pattern ahead", x.filling(1, 99, 10), UNKNOWN);
        due("19: nothing asked, the pattern ahead", x.filling(-1, 0, -1), UNKNOWN);
        tree(x, "e(a,7,a)");
        due("19: a tree, but nothing asked", x.filling(0, 0, LOW), STATE);
        x.ask();
        int[][] due = {{1, 2}, {2, 1}, {2, 3}, {3, 2}};
        for (int f = 0; f < due.length; f++) {
            due("19: filling " + f, x.filling(0, f, 1), due[f][0]);
            due("19: filling " + f, x.filling(0, f, 2), due[f][1]);
            due("19: not filled", x.filling(0, f, 0), NONE);
            due("19: not filled", x.filling(0, f, 9), NONE);
        }
        due("19: unknown filling", x.filling(0, 4, 1), UNKNOWN);
        due("19: unknown filling", x.filling(0, -1, 1), UNKNOWN);
        due("19: outside", x.filling(0, 0, 10), OUTSIDE);
        due("19: outside", x.filling(0, 0, -1), OUTSIDE);
        due("19: unknown pattern ahead of outside", x.filling(7, 0, 10), UNKNOWN);
        due("19: unknown filling ahead of outside", x.filling(0, 4, 10), UNKNOWN);
        due("19: unknown filling ahead of outside", x.filling(0, -1, -1), UNKNOWN);
        tree(x, "e(a,7,7)");
        due("19: no more asked, ahead of the name", x.filling(0, 0, 10), STATE);
        firstChoicesGoSlowest();
    }

    private static void firstChoicesGoSlowest() {
        RuleNet x = usual();
        pattern(x, 0, "d(..?1,d(?2,?3))");
        tree(x, "d(d(1,2),d(3,4))");
        x.ask();
        // 0 d, 1 d, 2 1, 3 2, 4 d, 5 3, 6 4.
        int[][] due = {{1, 5, 6}, {1, 6, 5}, {2, 5, 6}, {2, 6, 5}, {3, 5, 6}, {3, 6, 5},
            {4, 2, 3}, {4, 3, 2}, {5, 2, 3}, {5, 3, 2}, {6, 2, 3}, {6, 3, 2}};
        due("19: all", x.fillings(0), due.length);
        for (int f = 0; f < due.length; f++) {
            for (int n = 1; n <= 3; n++) {
                due("19: filling " + f + " of " + n, x.filling(0, f, n), due[f][n - 1]);
            }
        }
        x = usual();
        pattern(x, 0, "f(?0,?1,?2,?3)");
        tree(x, "f(1,2,3,4)");
        x.ask();
        due("19: orders of four", x.fillings(0), 24);
        int f = 0;
        for (int row = 1234; row <= 4321; row++) {
            String digits = "" + row;
            if (digits.contains("1") && digits.contains("2") && digits.contains("3") && digits.contains("4")) {
                for (int n = 0; n < 4; n++) {
                    due("19: order " + f, x.filling(0, f, n), digits.charAt(n) - '0');
                }
                f++;
            }
        }
        x = usual();
        pattern(x, 0, "c(?1,c(?2,?1))");
        tree(x, "c(b(1),c(a,b(1)))");
        x.ask();
        due("19: the first of the alike", x.filling(0, 0, 1), 1);
    }

    private static int tries(String patternText, String treeText) {
        RuleNet x = usual();
        pattern(x, 0, patternText);
        tree(x, treeText);
        x.ask();
        return x.asked(0, 0);
    }

    private static void promise20() {
        RuleNet x = usual();
        due("20: unknown", x.asked(0, 0), UNKNOWN);
        pattern(x, 0, "c(?,?)");
        due("20: nothing asked", x.asked(0, 0), STATE);
        due("20: outside ahead of state", x.asked(0, 3), OUTSIDE);
        due("20: unknown ahead of outside", x.asked(1, 3), UNKNOWN);
        tree(x, "c(1,2)");
        x.ask();
        due("20: tries", x.asked(0, 0), 3);
        due("20: not spent", x.asked(0, 1), 0);
        due("20: not many", x.asked(0, 2), 0);
        due("20: outside", x.asked(0, -1), OUTSIDE);
        due("20: outside", x.asked(0, 3), OUTSIDE);
        due("20: unknown", x.asked(-1, 0), UNKNOWN);
        due("20: at() is not asked", x.at(0, 1), 0);
        due("20: tries stay", x.asked(0, 0), 3);
        due("20: a wrong head", tries("c(?,?)", "b(1)"), 1);
        due("20: up to the wrong part", tries("g(1,2,3,4)", "g(1,3,3,4)"), 3);
        due("20: each order anew", tries("e(1,2,3)", "e(3,2,1)"), 1 + 1 + 1 + 1 + 1 + 2 + 3);
        due("20: below", tries("..7", "c(7,7)"), 1 + 3);
        due("20: below below", tries("....7", "b(7)"), 1 + 1 + 2 + 1 + 1);
        due("20: not", tries("!7", "c(1,2)"), 1 + 3);
        due("20: not, up to the first that is", tries("!7", "c(7,2)"), 1 + 2);
        due("20: not not", tries("!!7", "b(7)"), 1 + 1 + 2 + 1 + 1);
        due("20: not, with orders", tries("!d(1,2)", "d(2,1)"), 1 + 1 + 1 + 2);
        due("20: not, then further", tries("c(!7,1)", "c(2,1)"), 1 + 2 + 1);
        due("20: one order of no parts", tries("c(h,7)", "c(h,7)"), 3);
        String g = "g(1,2,3,4)";
        String most = "g(" + g + "," + g + "," + g + ",g(1,2,3,b(b(b(4)))))";
        due("20: all of 24 nodes", tries(most, most), 24);
        due("20: all of 24 nodes fit", fits(most, most), 1);
        x = usual();
        x.head(0, 1, true);
        pattern(x, 0, "c(i(?1),7)");
        tree(x, "c(i(1),7)");
        due("20: one order of one part", x.ask(), 1);
        due("20: one order of one part", x.asked(0, 0), 4);
    }

    private static void promise20Spent() {
        RuleNet x = usual();
        // Each order of each e with each of the others, all in vain at the end.
        pattern(x, 0, "c(e(e(?,?,?),e(?,?,?),e(?,?,?)),9)");
        pattern(x, 0, "c(..?1,..?2)");
        pattern(x, 0, "c(?1,!g(..1,..2,..3,..9))");
        tree(x, "c(e(e(1,2,3),e(4,5,6),e(7,8,9)),8)");
        due("20: ask", x.ask(), 2);
        due("20: spent tries", x.asked(0, 0), 2000);
        due("20: spent", x.asked(0, 1), 1);
        due("20: spent, not many", x.asked(0, 2), 0);
        due("20: nothing came", x.fillings(0), 0);
        due("20: not spent", x.asked(1, 1), 0);
        due("20: not spent", x.asked(2, 1), 0);
        x = usual();
        pattern(x, 0, "c(..?1,e(e(?,?,?),e(?,?,?),e(?,?,?)))");
        pattern(x, 0, "c(?1,!e(e(?,?,?),e(?,?,?),f(1,2,3,4)))");
        pattern(x, 0, "c(?,!e(e(?,?,?),e(?,?,?),..e(?,?,0)))");
        tree(x, "c(c(0,0),e(e(1,2,3),e(4,5,6),e(7,8,9)))");
        x.ask();
        due("20: spent", x.asked(0, 1), 1);
        due("20: what came is kept", x.fillings(0), 1);
        due("20: what came is kept", x.filling(0, 0, 1), 1);
        due("20: what came fits", x.at(0, 0), 1);
        due("20: spent within !", x.asked(2, 1), 1);
        due("20: spent within !, nothing came", x.fillings(2), 0);
        justSpent();
    }

    /** Makes of a node a chain of b's and a number, so many nodes in all. */
    private static void putChain(RuleNet x, int node, int nodes) {
        int left = nodes;
        change(x, node, "1");
        for (int end = node; left > 1; end += Math.min(12, left - 1), left = nodes - (end - node)) {
            int more = Math.min(12, left - 1);
            change(x, end, "b(".repeat(more) + "1" + ")".repeat(more));
        }
    }

    /**
     * ..8 takes 1 try and 1 for each node; ....8 on a chain of n takes 1, n, and all from each node on:
     * 1 + n + n (n + 1) / 2, so 1953 on 61; c itself and !8 on a chain of 45 take the other 47.
     */
    private static void justSpent() {
        for (int nodes = 45; nodes <= 46; nodes++) {
            RuleNet x = usual();
            tree(x, "c(1,1)");
            putChain(x, 2, 61);
            putChain(x, 1, nodes);
            due("20: chains", x.node(1, 3), nodes);
            due("20: chains", x.node(1 + nodes, 3), 61);
            pattern(x, 0, "c(!8,....8)");
            pattern(x, 0, "....8");
            x.ask();
            due("20: just 2000, or one more", x.asked(0, 0), 2000);
            due("20: just 2000, or one more", x.asked(0, 1), nodes == 45 ? 0 : 1);
            change(x, 0, "1");
            putChain(x, 0, 61);
            x.ask();
            due("20: below 2000", x.asked(1, 0), 1953);
            due("20: below 2000", x.asked(1, 1), 0);
            putChain(x, 0, 62);
            x.ask();
            due("20: above 2000", x.asked(1, 0), 2000);
            due("20: above 2000", x.asked(1, 1), 1);
        }
    }

    private static void promise20Many() {
        RuleNet x = usual();
        pattern(x, 0, "..?1");
        tree(x, "b(1)");
        String ones = "g(1,1,1,1)";
        tree(x, "g(g(" + ones + "," + ones + "," + ones + "," + ones + "),g(1,1,1,1),2,3)");
        due("20: 29 nodes", x.count(3), 29);
        x.ask();
        due("20: 29 fillings", x.fillings(0), 29);
        change(x, 28, "b(3)");
        x.ask();
        due("20: 30 fillings", x.fillings(0), 30);
        due("20: not many", x.asked(0, 2), 0);
        due("20: all tried", x.asked(0, 0), 31);
        change(x, 29, "b(3)");
        x.ask();
        due("20: 30 are kept", x.fillings(0), 30);
        due("20: many", x.asked(0, 2), 1);
        due("20: the 31st was tried", x.asked(0, 0), 32);
        due("20: the first ones are kept", x.filling(0, 29, 1), 29);
        change(x, 30, "b(b(3))");
        x.ask();
        due("20: nothing more is tried", x.asked(0, 0), 32);
        due("20: many and not spent", x.asked(0, 1), 0);
        due("20: at", x.at(0, 0), 30);
    }

    private static void promise21() {
        RuleNet x = usual();
        pattern(x, 0, "d(?1,?2)");
        due("21: no tree", x.at(0, 0), UNKNOWN);
        tree(x, "c(d(1,2),b(3))");
        due("21: not at the first", x.at(0, 0), 0);
        due("21: at a node", x.at(0, 1), 2);
        due("21: unknown node", x.at(0, 6), UNKNOWN);
        due("21: unknown node", x.at(0, -1), UNKNOWN);
        due("21: unknown pattern", x.at(1, 0), UNKNOWN);
        due("21: unknown pattern", x.at(-1, 0), UNKNOWN);
        due("21: nothing is asked by it", x.fit(0), STATE);
        pattern(x, 0, "..?1[0~9]");
        due("21: only what lies below", x.at(1, 1), 2);
        due("21: only what lies below", x.at(1, 4), 1);
        due("21: all", x.at(1, 0), 3);
    }

    private static void promise22() {
        RuleNet x = usual();
        pattern(x, 0, "?1[0~9]");
        pattern(x, 0, "..2");
        pattern(x, 0, "a");
        due("22: no tree", x.found(0, 0), NONE);
        due("22: unknown", x.found(3, 0), UNKNOWN);
        tree(x, "c(d(1,2),b(3))");
        int[] numbers = {2, 3, 5, NONE};
        int[] overTwo = {0, 1, 3, NONE};
        for (int i = 0; i < 4; i++) {
            due("22: found " + i, x.found(0, i), numbers[i]);
            due("22: found " + i, x.found(1, i), overTwo[i]);
            due("22: found nowhere", x.found(2, i), NONE);
        }
        for (int i = 3; i >= 0; i--) {
            due("22: found " + i, x.found(0, i), numbers[i]);
        }
        due("22: below 0", x.found(0, -1), NONE);
        due("22: below 0", x.found(0, LOW), NONE);
        due("22: not so many", x.found(0, HIGH), NONE);
        due("22: unknown", x.found(-1, 0), UNKNOWN);
        change(x, 1, "a");
        due("22: after a change", x.found(0, 0), 3);
        due("22: after a change", x.found(2, 0), 1);
        x.drop(2);
        pattern(x, 0, "b(?)");
        due("22: another pattern of the number", x.found(2, 0), 2);
    }

    // ---- the net

    private static void promise23() {
        RuleNet x = usual();
        due("23: no tree", x.looks(0), STATE);
        due("23: outside ahead of state", x.looks(2), OUTSIDE);
        due("23: outside", x.looks(-1), OUTSIDE);
        tree(x, "c(b(7),b(7))");
        due("23: an empty net", x.looks(0), 0);
        due("23: an empty net", x.looks(1), 0);
        String[] texts = {"?1", "c(?1,?1)", "c(?1:1,?2[0~9])", "b(c(?,?))", "c(b(?1),b(?1))", "7", "c(a,?)"};
        for (String text : texts) {
            pattern(x, 0, text);
        }
        pattern(x, 0, "d(?,?)");
        pattern(x, 0, "..c(?,?)");
        pattern(x, 0, "!a");
        due("23: looks", x.looks(0), 13);
        due("23: plain looks", x.looks(1), 16);
        tree(x, "7");
        due("23: looks at a number", x.looks(0), 4);
        due("23: plain looks at a number", x.looks(1), 7);
        x = usual();
        tree(x, "g(1,2,1,1)");
        pattern(x, 0, "g(?1,?2,?1,?2)");
        due("23: again", x.looks(0), 5);
        pattern(x, 0, "g(?5,?6,?5,?5)");
        due("23: again, shared", x.looks(0), 6);
        due("23: again, plain", x.looks(1), 10);
        pattern(x, 0, "g(?,?,?,?)");
        due("23: not again", x.looks(0), 8);
        x.drop(0);
        due("23: taken out", x.looks(0), 7);
    }

    private static void dueParts(String patternText, String treeText, int mark, int node) {
        RuleNet x = usual();
        pattern(x, 0, patternText);
        tree(x, treeText);
        due("24: mark of " + patternText, x.parts(0, 0), mark);
        due("24: node of " + patternText, x.parts(0, 1), node);
        due("24: " + patternText + " fits or not", x.ask(), mark == NONE ? 1 : 0);
    }

    private static void promise24() {
        RuleNet x = usual();
        due("24: unknown", x.parts(0, 0), UNKNOWN);
        pattern(x, 0, "c(?,?)");
        pattern(x, 0, "..a");
        pattern(x, 0, "d(?,?)");
        due("24: no tree", x.parts(0, 0), STATE);
        due("24: outside ahead of state", x.parts(0, 2), OUTSIDE);
        due("24: outside ahead of state", x.parts(1, -1), OUTSIDE);
        due("24: unknown ahead of outside", x.parts(3, 2), UNKNOWN);
        tree(x, "a");
        due("24: not in the net", x.parts(1, 0), STATE);
        due("24: not in the net", x.parts(2, 1), STATE);
        due("24: parts", x.parts(0, 0), 0);
        dueParts("c(?,?)", "c(1,2)", NONE, NONE);
        dueParts("c(?,?)", "b(1)", 0, 0);
        dueParts("c(?,7)", "c(g(1,2,3,4),8)", 2, 6);
        dueParts("c(b(?),7)", "c(b(b(b(1))),8)", 3, 5);
        dueParts("c(?1,?1)", "c(b(1),b(1))", NONE, NONE);
        dueParts("c(?1,?1)", "c(b(1),b(2))", 2, 3);
        dueParts("c(?1:1,c(?2[0~3],?1))", "c(b(1),c(4,b(1)))", 3, 4);
        dueParts("c(?:2,?)", "c(b(1),2)", 1, 1);
        dueParts("c(?1,?1:1)", "c(2,2)", 2, 2);
        dueParts("g(?1,?2,?2,?1)", "g(b(1),b(2),b(2),b(2))", 4, 7);
        dueParts("c(a,?)", "c(0,1)", 1, 1);
        dueParts("c(0,?)", "c(a,1)", 1, 1);
    }

    private static void promise25() {
        RuleNet x = usual();
        due("25: unknown", x.shared(0, 0), UNKNOWN);
        pattern(x, 0, "c(?1,b(?1))");
        pattern(x, 0, "c(?2,b(?3))");
        pattern(x, 0, "c(a,?)");
        pattern(x, 0, "7");
        pattern(x, 0, "..a");
        pattern(x, 0, "c(?,?)");
        due("25: itself", x.shared(0, 0), 4);
        due("25: up to again", x.shared(0, 1), 3);
        due("25: either way", x.shared(1, 0), 3);
        due("25: the head", x.shared(0, 2), 1);
        due("25: nothing", x.shared(0, 3), 0);
        due("25: holes", x.shared(1, 5), 2);
        due("25: not in the net", x.shared(0, 4), STATE);
        due("25: not in the net", x.shared(4, 0), STATE);
        due("25: unknown ahead of state", x.shared(4, 6), UNKNOWN);
        due("25: unknown", x.shared(-1, 0), UNKNOWN);
        due("25: unknown", x.shared(0, 40), UNKNOWN);
    }

    private static void dueClash(String a, String b, int want) {
        RuleNet x = usual();
        pattern(x, 0, a);
        pattern(x, 0, b);
        due("26: " + a + " and " + b, x.clash(0, 1), want);
        due("26: " + b + " and " + a, x.clash(1, 0), want);
    }

    private static void promise26() {
        RuleNet x = usual();
        due("26: unknown", x.clash(0, 0), UNKNOWN);
        pattern(x, 0, "?");
        pattern(x, 0, "c(?1,?1)");
        pattern(x, 0, "!a");
        due("26: unknown ahead of state", x.clash(2, 3), UNKNOWN);
        due("26: not in the net", x.clash(0, 2), STATE);
        due("26: not in the net", x.clash(2, 0), STATE);
        due("26: a name twice", x.clash(0, 1), STATE);
        due("26: a name twice", x.clash(1, 0), STATE);
        due("26: itself", x.clash(0, 0), 1);
        dueClash("c(?1,a)", "c(b(?1),?2)", 1);
        dueClash("c(?,a)", "c(?,7)", 0);
        dueClash("c(?,?)", "b(?)", 0);
        dueClash("a", "0", 0);
        dueClash("7", "007", 1);
        dueClash("7", "8", 0);
        dueClash("?[1~5]", "?[5~9]", 1);
        dueClash("?[1~5]", "?[6~9]", 0);
        dueClash("?[1~9]", "?[3~4]", 1);
        dueClash("?[1~5]", "5", 1);
        dueClash("?[1~5]", "6", 0);
        dueClash("?[1~5]", "a", 0);
        dueClash("?[3~1]", "?", 0);
        dueClash("?[-5~-3]", "?", 1);
        dueClash("?[-5~-3]", "?[-9~-4]", 1);
        dueClash("?[3~1]", "?[1~3]", 0);
        dueClash("?:1[1~3]", "?", 0);
        dueClash("?:1", "?[1~3]", 0);
        dueClash("?:1", "7", 0);
        dueClash("?:1", "c(?,?)", 1);
        dueClash("?:2", "b(?)", 0);
        dueClash("?:1", "?:2", 1);
        dueClash("?:1", "?:3", 0);
        dueClash("?:3", "?", 1);
        dueClash("?:4", "?", 0);
        dueClash("?:4", "?:3", 0);
        dueClash("?", "c(?,?:4)", 0);
        dueClash("c(1,c(?,?))", "c(?,c(?[2~1],?))", 0);
        dueClash("?", "c(b(?[2~1]),?)", 0);
        dueClash("?:2", "c(b(?:1),?[1~1])", 1);
        dueClash("c(?,?)", "c(g(1,2,?[3~3],?:1),b(?))", 1);
        dueClash("c(c(1,2),?)", "c(?,c(1,2))", 1);
        dueClash("c(c(1,2),4)", "c(?,c(1,2))", 0);
        x = new RuleNet();
        x.kind(0);
        pattern(x, 0, "?:1");
        due("26: no heads of the kind", x.clash(0, 0), 0);
        x.head(0, 2, true);
        due("26: no heads of the kind", x.clash(0, 0), 0);
        x.head(1, 2, true);
        due("26: a loose head is one", x.clash(0, 0), 1);
        x = new RuleNet();
        x.kind(0);
        x.head(1, 0, false);
        pattern(x, 0, "?:1");
        due("26: the first head is one", x.clash(0, 0), 1);
    }

    // ---- what comes out

    private static void promise27() {
        RuleNet x = usual();
        due("27: unknown", x.print(0), UNKNOWN);
        due("27: unknown", x.print(-1), UNKNOWN);
        pattern(x, 0, "a");
        x.print(0);
        due("27: unknown leaves the out", x.print(1), UNKNOWN);
        due("27: unknown leaves the out", x.count(8), 1);
        duePrinted("c ( a , b ( 7 ) )", "c(a,b(7))");
        duePrinted("-000", "0");
        duePrinted("000", "0");
        duePrinted("-007", "-7");
        duePrinted("0100", "100");
        duePrinted("-999999999999999999", "-999999999999999999");
        duePrinted("123456789012345678", "123456789012345678");
        duePrinted("100000000000000000", "100000000000000000");
        duePrinted("?:0", "?");
        duePrinted("?:00", "?");
        duePrinted("?3:004", "?3:4");
        duePrinted("?[-00~0010]", "?[0~10]");
        duePrinted("?0 : 0 [ 1 ~ -2 ]", "?0[1~-2]");
        duePrinted("..c(!a,..!d(?,?1))", "..c(!a,..!d(?,?1))");
        duePrinted("f(e(1,2,3),..b(..c(1,2)),!!a,g(1,2,3,4))", "f(e(1,2,3),..b(..c(1,2)),!!a,g(1,2,3,4))");
        x = new RuleNet();
        for (int k = 0; k < 11; k++) {
            x.kind(k);
        }
        pattern(x, 0, "?:011");
        x.print(0);
        dueText("27: a kind of two digits", out(x), "?:11");
    }

    private static void promise28() {
        RuleNet x = usual();
        due("28: no tree", x.printNode(0), UNKNOWN);
        tree(x, " g ( c ( 1 , -02 ) , b ( b ( a ) ) , -0 , h ) ");
        due("28: all", x.printNode(0), 22);
        dueText("28: all", out(x), "g(c(1,-2),b(b(a)),0,h)");
        due("28: a node", x.printNode(1), 7);
        dueText("28: a node", out(x), "c(1,-2)");
        due("28: deeper", x.printNode(5), 4);
        dueText("28: deeper", out(x), "b(a)");
        due("28: the last", x.printNode(8), 1);
        dueText("28: the last", out(x), "h");
        due("28: unknown", x.printNode(9), UNKNOWN);
        due("28: unknown", x.printNode(-1), UNKNOWN);
        dueText("28: unknown leaves the out", out(x), "h");
    }

    private static void promise29() {
        RuleNet x = usual();
        due("29: none such", x.out(0), NONE);
        tree(x, "c(1,2)");
        x.printNode(0);
        String text = "c(1,2)";
        for (int i = 0; i < text.length(); i++) {
            due("29: byte " + i, x.out(i), text.charAt(i));
        }
        due("29: none such", x.out(6), NONE);
        due("29: none such", x.out(-1), NONE);
        due("29: none such", x.out(LOW), NONE);
        due("29: none such", x.out(HIGH), NONE);
        x.printNode(1);
        due("29: a shorter one", x.out(0), '1');
        due("29: a shorter one", x.out(1), NONE);
    }

    private static void promise30() {
        RuleNet x = usual();
        due("30: nothing", x.back(), 0);
        tree(x, "c( 1 , 2 )");
        x.printNode(0);
        put(x, "zzz");
        due("30: in place of the tape", x.back(), 6);
        due("30: the tape", x.count(7), 6);
        due("30: the out stays", x.count(8), 6);
        due("30: the tape is it", x.change(1), 5);
        x.printNode(0);
        dueText("30: once more", out(x), "c(c(1,2),2)");
        String n = "123456789012345678";
        tree(x, "g(1,2,3,4)");
        String four = "g(" + n + "," + n + "," + n + "," + n + ")";
        String sixteen = "g(" + four + "," + four + "," + four + "," + four + ")";
        for (int k = 4; k >= 1; k--) {
            change(x, k, sixteen);
        }
        due("30: 85 nodes", x.count(3), 85);
        int length = sixteen.length() * 4 + 6;
        due("30: longer than a tape", x.printNode(0), length);
        due("30: longer than a tape", x.count(8), length);
        due("30: its last byte", x.out(length - 1), ')');
        due("30: the first 1000 bytes", x.back(), 1000);
        due("30: the first 1000 bytes", x.count(7), 1000);
        due("30: no whole tree", x.tree() < 0 ? 1 : 0, 1);
        due("30: the out stays", x.count(8), length);
        due("30: the tape is taken", x.count(7), 0);
    }
}
