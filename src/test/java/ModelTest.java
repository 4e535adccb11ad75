import java.util.ArrayList;
import java.util.List;
import java.util.Random;

/** Runs of calls, made by chance from fixed seeds, on RuleNet and on the Model: all answers must be the same. */
public final class ModelTest {
    private static final int RUNS = 1500, CALLS = 512;
    private static int wrong = 0;
    private static long answers = 0;

    private final Random chance;
    private final RuleNet x = new RuleNet();
    private final Model m = new Model();
    private final StringBuilder told = new StringBuilder();
    private final int seed;
    private int calls = 0;
    private boolean bad = false;

    private ModelTest(int seed) {
        this.seed = seed;
        this.chance = new Random(seed);
    }

    public static void main(String[] args) {
        int runs = args.length > 0 ? Integer.parseInt(args[0]) : RUNS;
        for (int seed = 1; seed <= runs && wrong < 5; seed++) {
            new ModelTest(seed).run();
        }
        System.out.println(answers + " answers compared, " + wrong + " runs differ");
        if (wrong != 0) {
            System.exit(1);
        }
    }

    private int pick(int n) {
        return chance.nextInt(n);
    }

    private void same(String call, long got, long due) {
        calls++;
        answers++;
        told.append(call).append(" = ").append(got).append('\n');
        if (got != due && !bad) {
            bad = true;
            wrong++;
            String all = told.toString();
            System.out.println("seed " + seed + ":\n" + all.substring(Math.max(0, all.length() - 3000))
                + "the model answers " + due);
        }
    }

    private void run() {
        kindsAndHeads();
        if (pick(10) > 0) {
            newTree();
        }
        while (calls < CALLS - 60 && !bad) {
            switch (pick(16)) {
                case 0: case 1: case 2: case 3: case 4: case 5: case 6: newPattern(); break;
                case 7: if (pick(2) == 0) { newTree(); } break;
                case 8: case 9: changeTree(); break;
                case 10: if (pick(4) == 0) { dropOne(); } break;
                case 11: case 12: asking(); break;
                case 13: theNet(); break;
                case 14: printing(); break;
                default: strayCalls(); break;
            }
        }
        for (int what = -1; what <= 9; what++) {
            same("count " + what, x.count(what), m.count(what));
        }
    }

    private void kindsAndHeads() {
        int kinds = pick(seed % 7 == 0 ? 14 : 5);
        for (int k = 0; k < kinds; k++) {
            int under = pick(k + 1) - pick(12) / 11;
            same("kind " + under, x.kind(under), m.kind(under));
        }
        int heads = 2 + pick(seed % 5 == 0 ? 22 : 6);
        for (int h = 0; h < heads; h++) {
            int kind = pick(m.count(0)) + pick(12) / 11;
            int parts = h == 0 ? 0 : pick(5) + pick(20) / 19 - pick(20) / 19;
            boolean loose = pick(seed % 3 == 0 ? 2 : 6) == 0;
            same("head " + kind + " " + parts + " " + loose, x.head(kind, parts, loose), m.head(kind, parts, loose));
        }
    }

    // ---- texts

    private void put(String text) {
        if (m.count(7) > 0 && pick(12) > 0) {
            same("cut 0", x.cut(0), m.cut(0));
        }
        byte[] bytes = new byte[(text.length() + 19) / 20 * 20];
        for (int i = 0; i < bytes.length; i++) {
            bytes[i] = (byte) (i < text.length() ? text.charAt(i) : 'a');
        }
        boolean full = false;
        for (int i = 0; i < bytes.length; i += 20) {
            int[] f = new int[5];
            for (int k = 0; k < 20; k++) {
                f[k / 4] = f[k / 4] << 8 | bytes[i + k] & 255;
            }
            int got = x.feed(f[0], f[1], f[2], f[3], f[4]);
            full |= got == RuleNet.FULL;
            same("feed", got, m.feed(f));
        }
        told.append("text ").append(text).append('\n');
        if (!full && bytes.length > text.length()) {
            int keep = m.count(7) - (bytes.length - text.length());
            same("cut " + keep, x.cut(keep), m.cut(keep));
        }
    }

    private String number() {
        if (pick(25) == 0) {
            return "-" + "0".repeat(pick(3)) + "999999999999999999".substring(pick(3));
        }
        return (pick(6) == 0 ? "-" : "") + (pick(8) == 0 ? "0" : "") + pick(pick(4) == 0 ? 40 : 4);
    }

    /** A number that bounds a SPAN: mostly so that something is in it. */
    private String span() {
        if (pick(6) == 0) {
            return "[" + number() + "~" + number() + "]";
        }
        int first = pick(4) - 1;
        return "[" + first + "~" + (first + pick(6)) + "]";
    }

    private char letter() {
        return (char) ('a' + pick(Math.max(1, m.count(1))));
    }

    private String treeText(int deep) {
        if (deep == 0 || pick(9) == 0) {
            boolean bare = m.count(1) == 0 || m.heads.get(0)[1] == 0;
            return bare && pick(3) == 0 ? "a" : number();
        }
        char c = letter();
        return c + partsOf(c, deep, false);
    }

    private String partsOf(char c, int deep, boolean asPattern) {
        if (c - 'a' >= m.count(1)) {
            return "";
        }
        StringBuilder s = new StringBuilder();
        int parts = m.heads.get(c - 'a')[1];
        for (int i = 0; i < parts; i++) {
            int below = Math.max(0, deep - 1);
            s.append(i == 0 ? "(" : ",").append(asPattern ? patternText(below) : treeText(below));
        }
        return s.append(parts > 0 ? ")" : "").toString();
    }

    private String holeText() {
        StringBuilder s = new StringBuilder("?");
        s.append(pick(3) > 0 ? "" + (pick(6) == 0 ? pick(10) : pick(3)) : "");
        s.append(pick(5) == 0 ? ":" + (pick(8) == 0 ? "0" : "") + pick(m.count(0) + pick(10) / 9) : "");
        return s.append(pick(6) == 0 ? span() : "").toString();
    }

    private String patternText(int deep) {
        int sort = pick(12);
        if (deep == 0 || sort < 4) {
            return pick(3) > 0 ? holeText() : treeText(0);
        }
        if (sort == 4) {
            return ".." + patternText(deep);
        }
        if (sort == 5) {
            return "!" + patternText(deep);
        }
        char c = letter();
        return c + partsOf(c, deep, true);
    }

    /** A pattern that comes of a tree's node, parts of it left open: such patterns mostly fit. */
    private String patternFrom(Model.Node t, int deep) {
        int sort = pick(14);
        if (sort < 2 || deep == 0) {
            return sort == 0 ? "?" : "?" + pick(5) + (pick(9) == 0 ? ":" + m.kindOf(t) : "");
        }
        if (sort <= 3) {
            List<Model.Node> all = t.all();
            return ".." + patternFrom(all.get(pick(all.size())), deep - 1);
        }
        if (sort == 4 && t.sort == 'n') {
            return "?" + pick(3) + "[" + (t.number - pick(3)) + "~" + (t.number + pick(3)) + "]";
        }
        if (sort == 5) {
            return "!" + patternText(1);
        }
        if (t.sort == 'n') {
            return "" + t.number;
        }
        List<Model.Node> parts = new ArrayList<>(t.parts);
        if (m.heads.get(t.head)[2] == 1) {
            java.util.Collections.shuffle(parts, chance);
        }
        StringBuilder s = new StringBuilder().append((char) ('a' + t.head));
        for (int i = 0; i < parts.size(); i++) {
            s.append(i == 0 ? "(" : ",").append(patternFrom(parts.get(i), deep - 1));
        }
        return s.append(parts.isEmpty() ? "" : ")").toString();
    }

    /** Blanks here and there, and now and then a byte that is gone, changed or new. */
    private String spoiled(String text) {
        StringBuilder s = new StringBuilder(text);
        if (pick(3) == 0) {
            for (int i = s.length(); i >= 0; i--) {
                boolean within = i > 0 && i < s.length() && "-.?0123456789".indexOf(s.charAt(i - 1)) >= 0
                    && ".0123456789".indexOf(s.charAt(i)) >= 0;
                if (pick(4) == 0 && (!within || pick(60) == 0)) {
                    s.insert(i, pick(4) == 0 ? '\n' : ' ');
                }
            }
        }
        int changes = pick(5) > 0 ? 0 : 1 + pick(2);
        for (int k = 0; k < changes && s.length() > 0; k++) {
            String signs = "abcdefgtz()(),,..!?:[~]-0123456789 \n;A\t" + (char) 200;
            char c = signs.charAt(pick(signs.length()));
            int i = pick(s.length());
            switch (pick(4)) {
                case 0: s.deleteCharAt(i); break;
                case 1: s.setCharAt(i, c); break;
                case 2: s.insert(i, c); break;
                default: s.setLength(pick(3) == 0 ? i : s.length()); break;
            }
        }
        if (pick(40) == 0) {
            int i = s.length() == 0 ? 0 : pick(s.length());
            s.insert(i, "12345678901234567890".substring(0, 17 + pick(4)));
        }
        return s.toString();
    }

    private String deepText() {
        StringBuilder s = new StringBuilder();
        int levels = 10 + pick(5);
        for (int k = 0; k < levels; k++) {
            s.append(pick(2) == 0 ? ".." : "!");
        }
        return s.append(patternText(2)).toString();
    }

    // ---- calls

    private void newPattern() {
        String text = m.tree != null && pick(2) == 0 ? patternFrom(m.tree.all().get(pick(2) == 0 ? 0
            : pick(m.count(3))), 4) : pick(25) == 0 ? deepText() : patternText(1 + pick(4));
        if (text.length() > 300) {
            return;
        }
        put(spoiled(text));
        int rank = pick(30) == 0 ? pick(1004) - 2 : pick(4);
        same("pattern " + rank, x.pattern(rank), m.pattern(rank));
        same("place", x.place(), m.place());
        if (pick(2) == 0) {
            int p = pick(41);
            int what = pick(7);
            same("told " + p + " " + what, x.told(p, what), m.told(p, what));
        }
    }

    private void newTree() {
        String text = treeText(2 + pick(4));
        for (int k = 0; k < 20 && text.length() > 400; k++) {
            text = treeText(2 + pick(3));
        }
        if (text.length() > 700) {
            return;
        }
        put(pick(3) == 0 ? spoiled(text) : text);
        same("tree", x.tree(), m.tree());
        same("place", x.place(), m.place());
        nodes();
    }

    private void changeTree() {
        int node = m.count(3) == 0 ? pick(2) : pick(m.count(3) + pick(8) / 7);
        // Trees grow deep by this, deeper than a text may be.
        if (pick(3) > 0) {
            node = Math.max(0, m.count(3) - 1 - pick(2));
        }
        String text = treeText(1 + pick(3));
        if (text.length() > 400) {
            return;
        }
        put(pick(3) == 0 ? spoiled(text) : text);
        same("change " + node, x.change(node), m.change(node));
        same("place", x.place(), m.place());
        nodes();
    }

    private void nodes() {
        for (int k = 0; k < 3; k++) {
            int n = pick(m.count(3) + 1) - pick(20) / 19;
            int what = pick(6) - pick(20) / 19;
            same("node " + n + " " + what, x.node(n, what), m.node(n, what));
            int a = pick(m.count(3) + 1);
            same("alike " + n + " " + a, x.alike(n, a), m.alike(n, a));
        }
    }

    private void dropOne() {
        int p = pick(42) - 1;
        same("drop " + p, x.drop(p), m.drop(p));
    }

    private int somePattern() {
        return pick(15) == 0 ? pick(44) - 2 : pick(Math.max(1, m.count(2)));
    }

    private void asking() {
        if (m.tree == null && pick(5) > 0) {
            return;
        }
        if (pick(8) > 0) {
            same("ask", x.ask(), m.ask());
        }
        int fits = m.fits == null ? 1 : m.fits.size();
        for (int i = -1; i <= Math.min(fits, 4); i++) {
            same("fit " + i, x.fit(i), m.fit(i));
        }
        for (int k = 0; k < 5; k++) {
            int p = m.fits != null && !m.fits.isEmpty() && pick(3) > 0 ? m.fits.get(pick(m.fits.size())) : somePattern();
            same("fillings " + p, x.fillings(p), m.fillings(p));
            int what = pick(4) - pick(20) / 19;
            same("asked " + p + " " + what, x.asked(p, what), m.asked(p, what));
            int f = pick(Math.max(0, m.fillings(p)) + 1) - pick(30) / 29;
            int end = m.fillings(p) > 0 ? 3 + pick(3) : 1;
            for (int n = 0; n < end; n++) {
                same("filling " + p + " " + f + " " + n, x.filling(p, f, n), m.filling(p, f, n));
            }
            int stray = pick(13) - 1;
            same("filling " + p + " " + f + " " + stray, x.filling(p, f, stray), m.filling(p, f, stray));
            int node = pick(m.count(3) + 1);
            same("at " + p + " " + node, x.at(p, node), m.at(p, node));
            for (int i = pick(5) - 1; i < 3; i++) {
                same("found " + p + " " + i, x.found(p, i), m.found(p, i));
            }
        }
    }

    private void theNet() {
        for (int what = 0; what < 2 + pick(12) / 11; what++) {
            same("looks " + what, x.looks(what), m.looks(what));
            same("count " + (4 + what), x.count(4 + what), m.count(4 + what));
        }
        for (int k = 0; k < 6; k++) {
            int p = somePattern();
            int q = somePattern();
            int what = pick(2) - pick(20) / 19;
            same("parts " + p + " " + what, x.parts(p, what), m.parts(p, what));
            same("shared " + p + " " + q, x.shared(p, q), m.shared(p, q));
            same("clash " + p + " " + q, x.clash(p, q), m.clash(p, q));
        }
    }

    private void printing() {
        int n = pick(2) == 0 ? somePattern() : pick(m.count(3) + 1);
        if (pick(2) == 0) {
            same("print " + n, x.print(n), m.print(n));
        } else {
            same("printNode " + n, x.printNode(n), m.printNode(n));
        }
        int start = pick(m.count(8) + 1) - 1;
        for (int i = start; i < start + 4; i++) {
            same("out " + i, x.out(i), m.out(i));
        }
        if (pick(3) == 0) {
            same("back", x.back(), m.back());
            if (pick(2) == 0) {
                same("tree", x.tree(), m.tree());
            } else {
                same("pattern 1", x.pattern(1), m.pattern(1));
            }
            same("place", x.place(), m.place());
        }
    }

    private void strayCalls() {
        int a = pick(14) - 1;
        int b = pick(14) - 1;
        same("isUnder " + a + " " + b, x.isUnder(a, b), m.isUnder(a, b));
        int cut = pick(9) - 1;
        same("cut " + cut, x.cut(cut), m.cut(cut));
        same("count " + a, x.count(a), m.count(a));
        if (pick(30) == 0) {
            same("kind " + a, x.kind(a), m.kind(a));
            boolean loose = pick(2) == 0;
            same("head " + a + " " + (b - 4) + " " + loose, x.head(a, b - 4, loose), m.head(a, b - 4, loose));
        }
        if (pick(10) == 0) {
            same("cut 0", x.cut(0), m.cut(0));
        }
    }
}
