/**
 * Promises 7, 9, 10 and 11: which FAULT a text has and at which byte. Every byte from 0 to 255, and the end, is put
 * behind the beginnings of texts at which the grammar parts; then the bounds of nodes, depths, DIGITS and THE TAPE.
 */
public final class FaultTest {
    private static final int NONE = RuleNet.NONE;
    /** In place of a FAULT's number: the text is taken. */
    private static final int TAKEN = 0;
    private static final String DIGITS = "0123456789", BLANKS = " \n";
    private static final String N18 = "123456789012345678", N19 = "1234567890123456789";
    private static final String PATTERN = "p", TREE = "t", CHANGE = "c", ALL = "ptc";

    private FaultTest() {
    }

    public static void main(String[] args) {
        nodesByByte();
        headsByByte();
        partsByByte();
        endsByByte();
        numbersByByte();
        holesByByte();
        spansByByte();
        blanks();
        lettersAndHeads();
        digits();
        kinds();
        patternNodes();
        treeNodes();
        changedNodes();
        depths();
        depthsBeside();
        twoFaultsAtOneByte();
        earlierByteFirst();
        wholeTape();
        nothingElseChanges();
        places();
        Due.end();
    }

    // ---- helpers

    private static String call(char how) {
        return how == 'p' ? "7: pattern" : how == 't' ? "9: tree" : "10: change";
    }

    /** The text as a pattern, a tree, what a node is changed to: as how tells. */
    private static void due(String how, String text, int fault, int place) {
        for (char c : how.toCharArray()) {
            Probe p = Probe.usual().withTree("c(1,2)");
            String what = call(c) + " <" + text + ">";
            int answer = c == 'p' ? p.pattern(0, text) : c == 't' ? p.tree(text) : p.change(2, text);
            if (fault == TAKEN) {
                Due.is(what + " is taken", answer < 0 ? answer : 0, 0);
            } else {
                Due.is(what, answer, -10 - fault);
                Due.is(what + ", the tree stays", p.x().node(2, 1), 2);
                Due.is(what + ", no pattern", p.x().count(2), 0);
            }
            Due.is("11: " + what + ", place", p.x().place(), fault == TAKEN ? NONE : place);
            Due.is(what + ", the tape is empty", p.x().count(7), 0);
        }
    }

    private static void taken(String how, String... texts) {
        for (String text : texts) {
            due(how, text, TAKEN, NONE);
        }
    }

    /**
     * The FAULT of a beginning alone, told at its end; then with each byte behind it: one that no row names has
     * the FAULT `other` at that byte; a row names bytes, their FAULT and its place.
     */
    private static void next(String how, String before, int atEnd, int other, Object... rows) {
        due(how, before, atEnd, before.length());
        for (int b = 0; b < 256; b++) {
            int fault = other;
            int place = before.length();
            for (int r = 0; r < rows.length; r += 3) {
                if (((String) rows[r]).indexOf(b) >= 0) {
                    fault = (Integer) rows[r + 1];
                    place = (Integer) rows[r + 2];
                    break;
                }
            }
            due(how, before + (char) b, fault, place);
        }
    }

    /** Where a node is to begin; closed: behind it the text may end. */
    private static void nextNode(String how, String before, boolean closed) {
        int n = before.length();
        int whole = closed ? TAKEN : 1;
        Object overs = how.equals(PATTERN) ? n + 1 : n;
        next(how, before, 1, 1, BLANKS, 1, n + 1, "ah" + DIGITS, whole, n + 1, "bcdefg", 6, n + 1,
            "ijklmnopqrstuvwxyz", 2, n, "-", 1, n + 1, ".!", 1, overs,
            "?", how.equals(PATTERN) ? whole : 1, overs);
    }

    // ---- every byte

    private static void nodesByByte() {
        for (String how : new String[] {PATTERN, TREE, CHANGE}) {
            nextNode(how, "", true);
            nextNode(how, " ", true);
            nextNode(how, "\n", true);
            nextNode(how, "b(", false);
            nextNode(how, "c(a,", false);
            nextNode(how, "g(1,2,3,\n ", false);
        }
        nextNode(PATTERN, "..", true);
        nextNode(PATTERN, "!", true);
        nextNode(PATTERN, ".. ", true);
        nextNode(PATTERN, "!\n", true);
        nextNode(PATTERN, "c(..", false);
        next(PATTERN, ".", 1, 1, ".", 1, 2);
        next(PATTERN, "b(.", 1, 1, ".", 1, 4);
    }

    private static void headsByByte() {
        next(ALL, "a", TAKEN, 1, BLANKS, TAKEN, NONE, "(", 6, 1);
        next(ALL, "h \n", TAKEN, 1, BLANKS, TAKEN, NONE, "(", 6, 3);
        next(PATTERN, "..a", TAKEN, 1, BLANKS, TAKEN, NONE, "(", 6, 3);
        for (String head : new String[] {"b", "c", "d", "e", "f", "g"}) {
            next(ALL, head, 6, 6, BLANKS, 6, 2, "(", 1, 2);
        }
        next(ALL, "b \n", 6, 6, BLANKS, 6, 4, "(", 1, 4);
        next(PATTERN, "!b", 6, 6, BLANKS, 6, 3, "(", 1, 3);
    }

    private static void partsByByte() {
        next(ALL, "c(a", 1, 1, BLANKS + ",", 1, 4, "()", 6, 3);
        next(ALL, "c(7", 1, 1, BLANKS + DIGITS + ",", 1, 4, ")", 6, 3);
        next(ALL, "c(7 ", 1, 1, BLANKS + ",", 1, 5, ")", 6, 4);
        next(ALL, "c(b(a)", 1, 1, BLANKS + ",", 1, 7, ")", 6, 6);
        next(ALL, "g(1,2,3", 1, 1, BLANKS + DIGITS + ",", 1, 8, ")", 6, 7);
        next(PATTERN, "c(?", 1, 1, BLANKS + DIGITS + ":[,", 1, 4, ")", 6, 3);
        next(PATTERN, "c(?1", 1, 1, BLANKS + ":[,", 1, 5, ")", 6, 4);
        next(PATTERN, "c(?[1~2]", 1, 1, BLANKS + ",", 1, 9, ")", 6, 8);
        next(PATTERN, "c(..!?1", 1, 1, BLANKS + ":[,", 1, 8, ")", 6, 7);
        next(ALL, "b(a", 1, 1, BLANKS, 1, 4, ")", TAKEN, NONE, "(,", 6, 3);
        next(ALL, "c(a,7 ", 1, 1, BLANKS, 1, 7, ")", TAKEN, NONE, ",", 6, 6);
        next(ALL, "g(1,2,3,4", 1, 1, BLANKS + DIGITS, 1, 10, ")", TAKEN, NONE, ",", 6, 9);
        next(ALL, "b(b(a)", 1, 1, BLANKS, 1, 7, ")", TAKEN, NONE, ",", 6, 6);
        next(PATTERN, "b(!a", 1, 1, BLANKS, 1, 5, ")", TAKEN, NONE, "(,", 6, 4);
    }

    private static void endsByByte() {
        next(ALL, "b(a)", TAKEN, 1, BLANKS, TAKEN, NONE);
        next(ALL, "7 ", TAKEN, 1, BLANKS, TAKEN, NONE);
        next(ALL, "c(b(1),2)\n", TAKEN, 1, BLANKS, TAKEN, NONE);
        next(PATTERN, "..b(a)", TAKEN, 1, BLANKS, TAKEN, NONE);
        next(PATTERN, "!7 ", TAKEN, 1, BLANKS, TAKEN, NONE);
        next(PATTERN, "?[1~2]", TAKEN, 1, BLANKS, TAKEN, NONE);
    }

    private static void numbersByByte() {
        next(ALL, "7", TAKEN, 1, BLANKS + DIGITS, TAKEN, NONE);
        next(ALL, "-", 1, 1, DIGITS, TAKEN, NONE);
        next(ALL, "-1", TAKEN, 1, BLANKS + DIGITS, TAKEN, NONE);
        next(ALL, "-1 ", TAKEN, 1, BLANKS, TAKEN, NONE);
        next(ALL, "c(-", 1, 1, DIGITS, 1, 4);
        next(ALL, N18, TAKEN, 1, BLANKS, TAKEN, NONE, DIGITS, 3, 0);
        next(ALL, "-" + N18, TAKEN, 1, BLANKS, TAKEN, NONE, DIGITS, 3, 0);
        next(ALL, "b( -" + N18, 1, 1, BLANKS, 1, 23, DIGITS, 3, 3, ")", TAKEN, NONE, ",", 6, 22);
        for (int b = 0; b < 256; b++) {
            due(ALL, N19 + (char) b, 3, 0);
            due(ALL, "\n-" + N19 + (char) b, 3, 1);
        }
    }

    private static void holesByByte() {
        next(PATTERN, "?", TAKEN, 1, BLANKS + DIGITS, TAKEN, NONE, ":[", 1, 2);
        next(PATTERN, "?0", TAKEN, 1, BLANKS, TAKEN, NONE, ":[", 1, 3);
        next(PATTERN, "?9", TAKEN, 1, BLANKS, TAKEN, NONE, ":[", 1, 3);
        next(PATTERN, "? ", TAKEN, 1, BLANKS, TAKEN, NONE, ":[", 1, 3);
        next(PATTERN, "?\n", TAKEN, 1, BLANKS, TAKEN, NONE, ":[", 1, 3);
        next(PATTERN, "?:", 1, 1, BLANKS, 1, 3, "01234", TAKEN, NONE, "56789", 3, 2);
        next(PATTERN, "? : ", 1, 1, BLANKS, 1, 5, "01234", TAKEN, NONE, "56789", 3, 4);
        next(PATTERN, "?:0", TAKEN, 1, BLANKS + "01234", TAKEN, NONE, "56789", 3, 2, "[", 1, 4);
        next(PATTERN, "?1:4", TAKEN, 1, BLANKS, TAKEN, NONE, DIGITS, 3, 3, "[", 1, 5);
        next(PATTERN, "?:4 ", TAKEN, 1, BLANKS, TAKEN, NONE, "[", 1, 5);
        next(PATTERN, "?:000000000000000004", TAKEN, 1, BLANKS, TAKEN, NONE, DIGITS, 3, 2, "[", 1, 21);
    }

    private static void spansByByte() {
        next(PATTERN, "?[", 1, 1, BLANKS + DIGITS + "-", 1, 3);
        next(PATTERN, "?1:2[", 1, 1, BLANKS + DIGITS + "-", 1, 6);
        next(PATTERN, "?[-", 1, 1, DIGITS, 1, 4);
        next(PATTERN, "?[1", 1, 1, BLANKS + DIGITS + "~", 1, 4);
        next(PATTERN, "?[1 ", 1, 1, BLANKS + "~", 1, 5);
        next(PATTERN, "?[" + N18, 1, 1, BLANKS + "~", 1, 21, DIGITS, 3, 2);
        next(PATTERN, "?[-" + N18, 1, 1, BLANKS + "~", 1, 22, DIGITS, 3, 2);
        next(PATTERN, "?[1~", 1, 1, BLANKS + DIGITS + "-", 1, 5);
        next(PATTERN, "?[1~-", 1, 1, DIGITS, 1, 6);
        next(PATTERN, "?[1~2", 1, 1, BLANKS + DIGITS, 1, 6, "]", TAKEN, NONE);
        next(PATTERN, "?[1~2 ", 1, 1, BLANKS, 1, 7, "]", TAKEN, NONE);
        next(PATTERN, "?[1~ " + N18, 1, 1, BLANKS, 1, 24, DIGITS, 3, 5, "]", TAKEN, NONE);
        next(PATTERN, "?[1~-" + N18, 1, 1, BLANKS, 1, 24, DIGITS, 3, 4, "]", TAKEN, NONE);
    }

    // ---- blanks, letters, digits, kinds

    private static void blanks() {
        taken(PATTERN, "c ( ?1 : 1 [ -1 ~ 2 ] , .. ! a )", "\nc\n(\n?\n:\n1\n[\n1\n~\n2\n]\n,\n..\n!\na\n)\n");
        taken(ALL, " c\n( a ,\n-5 ) ", "  \n\n  a  \n\n  ");
        due(ALL, "1 2", 1, 2);
        due(ALL, "- 1", 1, 1);
        due(ALL, "-\n1", 1, 1);
        due(PATTERN, ". .a", 1, 1);
        due(PATTERN, ".\n.a", 1, 1);
        due(PATTERN, "? 1", 1, 2);
        due(PATTERN, "?1 2", 1, 3);
        due(PATTERN, "?:0 1", 1, 4);
        due(PATTERN, "?[1 2~3]", 1, 4);
        due(PATTERN, "?[- 2~3]", 1, 3);
        due(PATTERN, "?[1~2 3]", 1, 6);
        due(PATTERN, "?[1~-\n3]", 1, 5);
        due(ALL, "", 1, 0);
        due(ALL, " ", 1, 1);
        due(ALL, " \n \n", 1, 4);
    }

    /** With each number of HEADS from none to all 20: the last LETTER that is one, and the first that is none. */
    private static void lettersAndHeads() {
        for (int heads = 0; heads <= 20; heads++) {
            Probe p = new Probe();
            for (int h = 0; h < heads; h++) {
                p.x().head(0, 0, h % 2 == 0);
            }
            for (char c = 'a'; c <= 'z'; c++) {
                boolean isHead = c - 'a' < heads;
                String what = heads + " HEADS, <" + c + ">";
                Due.is("9: " + what, p.tree("" + c), isHead ? 1 : -12);
                Due.is("11: " + what, p.x().place(), isHead ? NONE : 0);
                if (isHead) {
                    Due.is("14: " + what, p.x().node(0, 0), c - 'a');
                }
            }
        }
    }

    private static void digits() {
        String[] most = {"999999999999999999", "-999999999999999999", "000000000000000000", "-000000000000000001"};
        long[] values = {999999999999999999L, -999999999999999999L, 0, -1};
        for (int i = 0; i < most.length; i++) {
            Probe p = Probe.usual();
            Due.is("9: 18 digits", p.tree(most[i]), 1);
            Due.is("14: 18 digits", p.x().node(0, 1), values[i]);
            taken(PATTERN, most[i], "?[" + most[i] + "~" + most[i] + "]");
        }
        due(ALL, "0000000000000000000", 3, 0);
        due(ALL, "-0000000000000000000", 3, 0);
        due(ALL, "9223372036854775807", 3, 0);
        due(ALL, "-9223372036854775808", 3, 0);
        due(ALL, "c(1, 18446744073709551616)", 3, 5);
        due(PATTERN, "?[0000000000000000000~1]", 3, 2);
        due(PATTERN, "?[1~ 0000000000000000000]", 3, 5);
        due(PATTERN, "? : 0000000000000000000", 3, 4);
    }

    private static void kinds() {
        Probe p = new Probe();
        for (int kinds = 1; kinds <= 12; kinds++) {
            Due.is("7: the last KIND of " + kinds, p.pattern(0, "?:" + (kinds - 1)), kinds - 1);
            Due.is("7: a KIND that is not there, of " + kinds, p.pattern(0, "? :" + kinds), -13);
            Due.is("11: at its DIGITS", p.x().place(), 3);
            p.x().kind(kinds - 1);
        }
        due(PATTERN, "?:5", 3, 2);
        due(PATTERN, "?:999999999999999999", 3, 2);
        // What an int, or the last byte of one, would wrap to a KIND that is there.
        due(PATTERN, "?:4294967296", 3, 2);
        due(PATTERN, "?:4294967297", 3, 2);
        due(PATTERN, "?:256", 3, 2);
        due(PATTERN, "?:-1", 1, 2);
    }

    // ---- nodes

    private static String most(int g) {
        return "g(1,2,3,4),".repeat(g);
    }

    private static void patternNodes() {
        // 1, three times 5, and 7: 23 nodes stand ahead.
        String ahead = "g(" + most(3) + "g(1,2,3,b(b(b(";
        String behind = ")))))";
        for (String last : new String[] {"a", "7", "-7", "?", "?0:1[1~2]", " a "}) {
            Probe p = Probe.usual();
            Due.is("7: 24 nodes, " + last, p.pattern(0, ahead + last + behind), 0);
            Due.is("13: 24 nodes, " + last, p.x().told(0, 1), 24);
            due(PATTERN, ahead + ".." + last + behind, 4, ahead.length() + (last.equals(" a ") ? 3 : 2));
            due(PATTERN, ahead + "!" + last + behind, 4, ahead.length() + (last.equals(" a ") ? 2 : 1));
            due(PATTERN, ahead + "b( " + last + ")" + behind, 4, ahead.length() + (last.equals(" a ") ? 4 : 3));
        }
        for (String one : new String[] {"..a", "!a", "b(a)", "..", "!", "b", "?:99", "?[", "?1", "-1"}) {
            due(PATTERN, ahead + "b(\n" + one, 4, ahead.length() + 3);
        }
        // Each .. and ! is a node, too: 1, 7, 4, 7 and 5 are 24.
        taken(PATTERN, "g(!!!!!!a,......a,b(b(b(b(b(b(7)))))),!!!!?)");
        due(PATTERN, "g(!!!!!!a,......a,b(b(b(b(b(b(7)))))),!!!!!?)", 4, 43);
    }

    private static void treeNodes() {
        String group = "g(" + "g(1,2,3,4),".repeat(3) + "g(1,2,3,4))";
        // 1, three times 21, g, two times 21, b, c and two times 5, and the last: 120.
        String ahead = "g(" + (group + ",").repeat(3) + "g(" + group + "," + group + ",b(c(g(1,2,3,4),g(1,2,3,4))),";
        for (String last : new String[] {"a", "7", "-999999999999999999", " h\n"}) {
            Probe p = Probe.usual();
            Due.is("9: 120 nodes, " + last, p.tree(ahead + last + "))"), 120);
            Due.is("12: 120 nodes", p.x().count(3), 120);
            Due.is("14: the last node", p.x().node(119, 3), 1);
            Due.is("14: none behind it", p.x().node(120, 3), RuleNet.UNKNOWN);
        }
        due(TREE, ahead + "b(a)))", 4, ahead.length() + 2);
        due(TREE, ahead + "b( \n-7)))", 4, ahead.length() + 4);
        due(TREE, ahead + "b(g(1,1,1,1", 4, ahead.length() + 2);
        due(TREE, ahead + "b(z", 2, ahead.length() + 2);
        due(TREE, ahead + "b(?", 1, ahead.length() + 2);
        due(TREE, ahead + "b(", 1, ahead.length() + 2);
        due(TREE, ahead + "b(" + N19, 3, ahead.length() + 2);
        // With all of c(1,2) but its last node, 118 may come by change().
        String less = ahead.replace("b(c(g(1,2,3,4),g(1,2,3,4)))", "b(c(g(1,2,3,4),a))");
        Probe p = Probe.usual().withTree("c(1,2)");
        Due.is("10: 118 nodes and 2", p.change(2, less + "c(1,2)))"), 120);
        due(CHANGE, less + "c(1,b(5))))", 4, less.length() + 6);
    }

    private static void changedNodes() {
        Probe p = Probe.usual().withTree("c(1,1)").withChain(2, 60, "5").withChain(1, 58, "5");
        Due.is("10: 119 nodes", p.x().count(3), 119);
        Due.is("10: two nodes more", p.change(118, "c( 1,2)"), -14);
        Due.is("11: the 121st", p.x().place(), 5);
        Due.is("10: as before", p.x().count(3), 119);
        Due.is("10: one node more", p.change(118, "b(6)"), 120);
        Due.is("10: as many", p.change(119, "a"), 120);
        Due.is("10: one too many", p.change(119, "b(a)"), -14);
        Due.is("11: the 121st", p.x().place(), 2);
        Due.is("10: what goes makes room", p.change(58, "g(1,2,3,4)"), -14);
        Due.is("11: its 2nd", p.x().place(), 2);
        Due.is("10: what goes makes room", p.change(57, "b(7)"), 120);
        Due.is("10: what goes makes room", p.change(57, "c(7,8)"), -14);
        Due.is("11: its 3rd", p.x().place(), 4);
        Due.is("10: fewer", p.change(1, "9"), 63);
        Due.is("10: all of it", p.change(0, "9"), 1);
        Due.is("10: a node 0 has all the room", p.change(0, "c(1,2)"), 3);
    }

    // ---- depths

    private static void depths() {
        String[] over = {"b(", "..", "!"};
        for (int k = 0; k < 27; k++) {
            StringBuilder s = new StringBuilder();
            int open = 0;
            for (int i = 0; i < 12; i++) {
                String one = over[i % 3 == 0 ? k % 3 : i % 3 == 1 ? k / 3 % 3 : k / 9];
                s.append(one);
                open += one.equals("b(") ? 1 : 0;
            }
            String ahead = s.toString();
            String behind = ")".repeat(open);
            int n = ahead.length();
            taken(PATTERN, ahead + "a" + behind, ahead + "7" + behind, ahead + "?1" + behind);
            due(PATTERN, ahead + "b(a)" + behind, 5, n + 1);
            due(PATTERN, ahead + "b (", 5, n + 2);
            due(PATTERN, ahead + "..a" + behind, 5, n);
            due(PATTERN, ahead + "\n!a" + behind, 5, n + 1);
        }
        String twelve = "b(".repeat(12);
        taken(ALL, twelve + "a" + ")".repeat(12), twelve + "-7" + ")".repeat(12));
        due(ALL, twelve + "b(a)" + ")".repeat(12), 5, 25);
        due(ALL, twelve + "b \n(", 5, 27);
        due(ALL, "b(".repeat(30) + "a" + ")".repeat(30), 5, 25);
        due(ALL, twelve + "g(1,2,3,4)" + ")".repeat(12), 5, 25);
    }

    private static void depthsBeside() {
        String eleven = "b(".repeat(11) + "a" + ")".repeat(11);
        taken(TREE, "g(" + (eleven + ",").repeat(3) + eleven + ")");
        taken(CHANGE, "g(" + (eleven + ",").repeat(3) + eleven + ")");
        String ahead = "g(" + (eleven + ",").repeat(3);
        due("tc", ahead + "b(" + eleven + "))", 5, ahead.length() + 23);
        taken(PATTERN, "c(!!!!!!!!!!!a,..........b(b(b(b(b(a))))))");
        taken(PATTERN, "c(b(......!!!!!!!a),..!..!..!..!b(b(a)))");
        // change() may put a text of depth 12 at any depth: its own bytes alone count.
        Probe p = Probe.usual().withTree("b(".repeat(12) + "a" + ")".repeat(12));
        Due.is("10: 12 more", p.change(12, "b(".repeat(12) + "a" + ")".repeat(12)), 25);
        Due.is("10: 13 are too many there, too", p.change(24, "b(".repeat(13) + "a" + ")".repeat(13)), -15);
        Due.is("11: the 13th", p.x().place(), 25);
    }

    // ---- which FAULT, which byte

    private static void twoFaultsAtOneByte() {
        String full = "g(" + most(3) + "g(1,2,3,b(b(b(b(";
        int n = full.length();
        due(PATTERN, full + ")", 1, n);
        due(PATTERN, full + ",", 1, n);
        due(PATTERN, full + "(", 1, n);
        due(PATTERN, full, 1, n);
        due(PATTERN, full + "z", 2, n);
        due(PATTERN, full + "i", 2, n);
        due(PATTERN, full + N19, 3, n);
        due(PATTERN, full + "-" + N19, 3, n);
        due(PATTERN, full + "-" + N18, 4, n);
        due(PATTERN, full + "h", 4, n);
        // A node too many within 12: 4, not 5. Twelve over g and its 11 others, and one more.
        String deep = "g(1,2,3,g(1,2,3,g(1,2," + "!".repeat(9);
        due(PATTERN, deep + "b(b", 5, deep.length() + 1);
        String deepFull = "g(1,2,3,g(1,2,3,g(1,2,3," + "!".repeat(9) + "!";
        due(PATTERN, deepFull, 5, deepFull.length() - 1);
        String deepMost = "g(1,2,3,g(1,2,3,g(1,2,3,g(1,2,3," + "!".repeat(8);
        due(PATTERN, deepMost + "!", 4, deepMost.length());
        due(PATTERN, deepMost + "..a", 4, deepMost.length());
        due(PATTERN, deepMost + "a", 4, deepMost.length());
        due(PATTERN, deepMost + "]", 1, deepMost.length());
        String twelve = "b(".repeat(12);
        due(ALL, twelve + "(", 1, 24);
        due("tc", twelve + "!", 1, 24);
        due("tc", twelve + "..", 1, 24);
        due(ALL, twelve + "a(", 6, 25);
        due(ALL, twelve + "h (", 6, 26);
        due(ALL, twelve + "7(", 1, 25);
        due(PATTERN, twelve + "?(", 1, 25);
        // 6 comes in place of 1, which is the least: so whatever else stands behind a HEAD with PARTS is 6.
        due(ALL, "bz", 6, 1);
        due(ALL, "b " + N19, 6, 2);
        due(ALL, "b)", 6, 1);
        due(ALL, "c(b,a)", 6, 3);
        due(ALL, twelve + "b!", 6, 25);
        due(ALL, twelve + "b..", 6, 25);
        String lastIsHead = "g(" + most(3) + "g(1,2,3,b(b(b(b";
        due(PATTERN, lastIsHead + "a", 6, lastIsHead.length());
        due(PATTERN, lastIsHead, 6, lastIsHead.length());
        due(ALL, "az", 1, 1);
        due(ALL, "a" + N19, 1, 1);
        due(ALL, "c(az", 1, 3);
    }

    private static void earlierByteFirst() {
        due(ALL, "c(z;", 2, 2);
        due(ALL, "c(;z", 1, 2);
        due(ALL, "c(" + N19 + ",z)", 3, 2);
        due(ALL, "c(a)z", 6, 3);
        due(ALL, "a(z", 6, 1);
        due(PATTERN, "?:9[", 3, 2);
        due(PATTERN, "?:9 9", 3, 2);
        due(PATTERN, "?[" + N19 + "x", 3, 2);
        due(PATTERN, "?[1~" + N19 + "x", 3, 4);
        String full = "g(" + most(3) + "g(1,2,3,b(b(b(b(";
        due(PATTERN, full + "?:9", 4, full.length());
        due(PATTERN, full + "b z", 4, full.length());
        due(PATTERN, full + "a(", 4, full.length());
        due(PATTERN, "b(".repeat(12) + "b(z", 5, 25);
        due(PATTERN, "b(".repeat(12) + "!z", 5, 24);
        // Of a node the first byte comes ahead of the others: also of a .. and a number that break off there.
        due(PATTERN, full + ".x", 4, full.length());
        due(PATTERN, full + "-x", 4, full.length());
        due(PATTERN, "b(".repeat(12) + ".x", 5, 24);
    }

    private static void wholeTape() {
        String blanks = " ".repeat(1000);
        taken(ALL, "b(" + blanks.substring(4) + "7)", blanks.substring(1) + "7", "7" + blanks.substring(1));
        due(ALL, blanks, 1, 1000);
        due(ALL, blanks.substring(1), 1, 999);
        due(ALL, "b(7" + blanks.substring(3), 1, 1000);
        due(ALL, "b" + blanks.substring(1), 6, 1000);
        due(ALL, "b" + blanks.substring(2) + "a", 6, 999);
        due(ALL, "c(7" + blanks.substring(4) + ")", 6, 999);
        due(ALL, "7" + blanks.substring(2) + "7", 1, 999);
        due(ALL, blanks.substring(1) + "i", 2, 999);
        due(ALL, blanks.substring(1) + "b", 6, 1000);
        due(ALL, blanks.substring(1) + "-", 1, 1000);
        due(ALL, "9".repeat(1000), 3, 0);
        due(ALL, "(".repeat(1000), 1, 0);
        due(PATTERN, "!".repeat(1000), 5, 12);
        due(PATTERN, ".".repeat(1000), 5, 24);
        due(PATTERN, "?:" + "0".repeat(998), 3, 2);
    }

    // ---- what a FAULT leaves

    private static Probe busy() {
        Probe p = Probe.usual().withPattern(5, "c(?1,?2)").withPattern(3, "..?1").withPattern(3, "d(?1,7)");
        p.withTree("c(d(1,2),b(3))");
        p.x().ask();
        p.x().print(2);
        return p;
    }

    private static void nothingElseChanges() {
        String[] texts = {"", "z", N19, "b(".repeat(13), "c(a)", "c(b(1),c(7,;", "a a"};
        for (String text : texts) {
            for (char c : ALL.toCharArray()) {
                Probe p = busy();
                int answer = c == 'p' ? p.pattern(0, text) : c == 't' ? p.tree(text) : p.change(1, text);
                String what = call(c) + " <" + text + ">";
                Due.is(what + " has a FAULT", answer <= -11 && answer >= -16 ? 1 : 0, 1);
                Due.text(what + ", what has changed", p.all(false), busy().all(false));
            }
        }
    }

    private static void places() {
        Probe p = Probe.usual();
        Due.is("11: there was none such", p.x().place(), NONE);
        p.put("c(a;");
        Due.is("11: feeding is none such", p.x().place(), NONE);
        p.x().tree();
        Due.is("11: of tree()", p.x().place(), 3);
        p.put("7");
        p.x().pattern(1001);
        Due.is("11: pattern() was refused", p.x().place(), 3);
        p.x().change(0);
        Due.is("11: change() was refused", p.x().place(), 3);
        p.x().tree();
        Due.is("11: it had none", p.x().place(), NONE);
        p.pattern(0, "b(?x");
        Due.is("11: of pattern()", p.x().place(), 3);
        p.x().pattern(-1);
        p.x().change(1);
        Due.is("11: refused", p.x().place(), 3);
        p.pattern(0, "?");
        Due.is("11: it had none", p.x().place(), NONE);
        p.change(0, "a,");
        Due.is("11: of change()", p.x().place(), 1);
        p.x().ask();
        p.x().drop(0);
        p.x().kind(9);
        p.x().print(0);
        p.x().back();
        p.x().cut(0);
        Due.is("11: other calls leave it", p.x().place(), 1);
        p.change(0, "a");
        Due.is("11: it had none", p.x().place(), NONE);
        for (int k = 0; k < 40; k++) {
            p.pattern(0, "?");
        }
        p.pattern(0, "b(a,");
        Due.is("11: pattern() was FULL", p.x().place(), NONE);
        p.x().tree();
        Due.is("11: the tape had stayed", p.x().place(), 3);
        p.x().pattern(0);
        Due.is("11: pattern() was FULL", p.x().place(), 3);
    }
}
