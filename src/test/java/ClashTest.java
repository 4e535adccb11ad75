import java.util.ArrayList;
import java.util.List;
import java.util.Random;

/**
 * clash() against all small trees: patterns are one level deep, and where two of them have a tree in common,
 * they have one of two levels over the numbers that can make a difference.
 */
public final class ClashTest {
    private static final int NET_RUNS = 150, PATTERNS = 14;

    private static int wrong = 0;
    private static int ones = 0;
    private static int zeros = 0;

    public static void main(String[] args) {
        for (int seed = 1; seed <= NET_RUNS; seed++) {
            run(new Random(seed));
        }
        System.out.println(ones + " with and " + zeros + " without a tree in common, " + wrong + " not as due");
        if (wrong != 0 || ones == 0 || zeros == 0) {
            System.exit(1);
        }
    }

    private static void run(Random chance) {
        RuleNet x = new RuleNet();
        Model m = new Model();
        for (int k = 1; k < 5; k++) {
            int under = chance.nextInt(k);
            x.kind(under);
            m.kind(under);
        }
        int heads = 1 + chance.nextInt(3);
        for (int h = 0; h < heads; h++) {
            int kind = chance.nextInt(5);
            int parts = chance.nextInt(3);
            x.head(kind, parts, false);
            m.head(kind, parts, false);
        }
        for (int p = 0; p < PATTERNS; p++) {
            String text = patternText(chance, m, 1);
            put(x, text);
            x.pattern(0);
            for (char c : text.toCharArray()) {
                m.tape.add((int) c);
            }
            m.pattern(0);
        }
        List<Model.Node> trees = trees(m, trees(m, numbers()));
        for (int p = 0; p < PATTERNS; p++) {
            for (int q = 0; q < PATTERNS; q++) {
                compare(x, m, trees, p, q);
            }
        }
    }

    private static void compare(RuleNet x, Model m, List<Model.Node> trees, int p, int q) {
        int due = 0;
        for (Model.Node t : trees) {
            if (fits(m, p, t) && fits(m, q, t)) {
                due = 1;
                break;
            }
        }
        ones += due;
        zeros += 1 - due;
        if (x.clash(p, q) != due) {
            wrong++;
            System.out.println(Model.printed(m.patterns[p].top) + " and " + Model.printed(m.patterns[q].top)
                + " answered " + x.clash(p, q) + ", due is " + due);
        }
    }

    private static boolean fits(Model m, int p, Model.Node t) {
        return !m.search(m.patterns[p], t).fillings.isEmpty();
    }

    private static List<Model.Node> numbers() {
        List<Model.Node> all = new ArrayList<>();
        for (int n = 0; n < 4; n++) {
            all.add(Model.numberNode(n));
        }
        return all;
    }

    private static List<Model.Node> trees(Model m, List<Model.Node> below) {
        List<Model.Node> all = new ArrayList<>(numbers());
        for (int h = 0; h < m.heads.size(); h++) {
            int parts = m.heads.get(h)[1];
            for (int i = 0; i < (parts > 0 ? below.size() : 1); i++) {
                for (int j = 0; j < (parts > 1 ? below.size() : 1); j++) {
                    Model.Node t = new Model.Node();
                    t.sort = 'h';
                    t.head = h;
                    if (parts > 0) {
                        t.parts.add(below.get(i));
                    }
                    if (parts > 1) {
                        t.parts.add(below.get(j));
                    }
                    all.add(t);
                }
            }
        }
        return all;
    }

    private static String patternText(Random chance, Model m, int deep) {
        int sort = chance.nextInt(10);
        if (sort < 2) {
            return "" + chance.nextInt(4);
        }
        if (sort < 6 || deep == 0) {
            String kind = chance.nextInt(2) == 0 ? ":" + chance.nextInt(5) : "";
            String span = chance.nextInt(3) == 0 ? "[" + chance.nextInt(4) + "~" + chance.nextInt(4) + "]" : "";
            return "?" + kind + span;
        }
        int h = chance.nextInt(m.heads.size());
        StringBuilder s = new StringBuilder().append((char) ('a' + h));
        int parts = m.heads.get(h)[1];
        for (int i = 0; i < parts; i++) {
            s.append(i == 0 ? "(" : ",").append(patternText(chance, m, deep - 1));
        }
        return s.append(parts > 0 ? ")" : "").toString();
    }

    private static void put(RuleNet x, String text) {
        for (int i = 0; i < text.length(); i += 20) {
            int[] f = new int[5];
            for (int k = 0; k < 20; k++) {
                f[k / 4] = f[k / 4] << 8 | (i + k < text.length() ? text.charAt(i + k) : ' ');
            }
            x.feed(f[0], f[1], f[2], f[3], f[4]);
        }
    }
}
