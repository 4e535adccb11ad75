import java.util.ArrayList;
import java.util.Arrays;
import java.util.HashSet;
import java.util.LinkedHashSet;
import java.util.List;
import java.util.Set;

/**
 * The document once more, written for plainness alone and by other means than RuleNet (trees of objects,
 * sets of rows, exceptions), so that a slip in one of the two shows as a difference.
 */
final class Model {
    static final int NONE = -1, UNKNOWN = -1001, OUTSIDE = -1002, STATE = -1003, FULL = -1004;

    /** A node of a tree or of a pattern; sort is one of h n ? . and !. */
    static final class Node {
        char sort;
        int head = NONE;
        long number;
        int name = NONE;
        int kind;
        long[] span;
        int id;
        Node over;
        List<Node> parts = new ArrayList<>();

        List<Node> all() {
            List<Node> all = new ArrayList<>();
            all.add(this);
            for (Node part : parts) {
                all.addAll(part.all());
            }
            return all;
        }
    }

    static final class Fault extends RuntimeException {
        private static final long serialVersionUID = 1;
        final int number;
        final int place;

        Fault(int number, int place) {
            super(null, null, false, false);
            this.number = number;
            this.place = place;
        }
    }

    static final class Stop extends RuntimeException {
        private static final long serialVersionUID = 1;

        Stop() {
            super(null, null, false, false);
        }
    }

    static final class Hit extends RuntimeException {
        private static final long serialVersionUID = 1;

        Hit() {
            super(null, null, false, false);
        }
    }

    static final class Pattern {
        int number;
        int rank;
        Node top;
        Search asked;
    }

    final List<Integer> kindUnder = new ArrayList<>();
    final List<int[]> heads = new ArrayList<>();
    final Pattern[] patterns = new Pattern[40];
    List<Integer> tape = new ArrayList<>();
    List<Integer> out = new ArrayList<>();
    Node tree;
    int place = NONE;
    List<Integer> fits;

    Model() {
        kindUnder.add(NONE);
    }

    // ---- kinds, heads, texts

    boolean isKind(long k) {
        return k >= 0 && k < kindUnder.size();
    }

    boolean under(int a, int b) {
        return a == b || a != 0 && under(kindUnder.get(a), b);
    }

    int kind(int under) {
        if (!isKind(under)) {
            return UNKNOWN;
        }
        if (kindUnder.size() == 12) {
            return FULL;
        }
        kindUnder.add(under);
        return kindUnder.size() - 1;
    }

    int isUnder(int a, int b) {
        return !isKind(a) || !isKind(b) ? UNKNOWN : under(a, b) ? 1 : 0;
    }

    int head(int kind, int parts, boolean loose) {
        if (!isKind(kind)) {
            return UNKNOWN;
        }
        if (parts < 0 || parts > 4) {
            return OUTSIDE;
        }
        if (heads.size() == 20) {
            return FULL;
        }
        heads.add(new int[] {kind, parts, loose ? 1 : 0});
        return heads.size() - 1;
    }

    int feed(int... five) {
        if (tape.size() + 20 > 1000) {
            return FULL;
        }
        for (int number : five) {
            for (int k = 3; k >= 0; k--) {
                tape.add((number >> 8 * k) & 0xff);
            }
        }
        return tape.size();
    }

    int cut(int n) {
        if (n < 0 || n > tape.size()) {
            return OUTSIDE;
        }
        int gone = tape.size() - n;
        tape = new ArrayList<>(tape.subList(0, n));
        return gone;
    }

    int pattern(int rank) {
        if (rank < 0 || rank > 1000) {
            return OUTSIDE;
        }
        int free = 0;
        while (free < 40 && patterns[free] != null) {
            free++;
        }
        if (free == 40) {
            return FULL;
        }
        try {
            Pattern p = new Pattern();
            p.top = take(true, 24);
            p.rank = rank;
            p.number = free;
            patterns[free] = p;
            fits = null;
            return free;
        } catch (Fault fault) {
            place = fault.place;
            return -10 - fault.number;
        }
    }

    int drop(int p) {
        if (patternOf(p) == null) {
            return UNKNOWN;
        }
        patterns[p] = null;
        fits = null;
        return count(2);
    }

    int tree() {
        try {
            tree = take(false, 120);
            return renumber();
        } catch (Fault fault) {
            place = fault.place;
            return -10 - fault.number;
        }
    }

    int change(int n) {
        Node gone = nodeOf(n);
        if (gone == null) {
            return UNKNOWN;
        }
        try {
            Node come = take(false, 120 - (tree.all().size() - gone.all().size()));
            if (gone.over == null) {
                tree = come;
            } else {
                gone.over.parts.set(gone.over.parts.indexOf(gone), come);
                come.over = gone.over;
            }
            return renumber();
        } catch (Fault fault) {
            place = fault.place;
            return -10 - fault.number;
        }
    }

    int renumber() {
        fits = null;
        List<Node> all = tree.all();
        for (int i = 0; i < all.size(); i++) {
            all.get(i).id = i;
        }
        return all.size();
    }

    int place() {
        return place;
    }

    int count(int what) {
        switch (what) {
            case 0: return kindUnder.size();
            case 1: return heads.size();
            case 2: return (int) Arrays.stream(patterns).filter(p -> p != null).count();
            case 3: return tree == null ? 0 : tree.all().size();
            case 4: return net().size();
            case 5: return steps().size();
            case 6: return net().stream().mapToInt(p -> row(p).size()).sum();
            case 7: return tape.size();
            case 8: return out.size();
            default: return OUTSIDE;
        }
    }

    int told(int number, int what) {
        Pattern p = patternOf(number);
        if (p == null) {
            return UNKNOWN;
        }
        List<Node> all = p.top.all();
        switch (what) {
            case 0: return p.rank;
            case 1: return all.size();
            case 2: return inNet(p) ? 1 : 0;
            case 3: return (int) all.stream().filter(n -> n.name != NONE).count();
            case 4: return (int) all.stream().filter(n -> n.name != NONE).mapToInt(n -> n.name).distinct().count();
            case 5: return (int) all.stream().filter(this::isWild).count();
            default: return OUTSIDE;
        }
    }

    long node(int number, int what) {
        Node n = nodeOf(number);
        if (n == null) {
            return UNKNOWN;
        }
        switch (what) {
            case 0: return n.head;
            case 1: return n.number;
            case 2: return n.over == null ? NONE : n.over.id;
            case 3: return n.all().size();
            case 4: return kindOf(n);
            default: return OUTSIDE;
        }
    }

    int alike(int a, int b) {
        return nodeOf(a) == null || nodeOf(b) == null ? UNKNOWN : alike(nodeOf(a), nodeOf(b)) ? 1 : 0;
    }

    static boolean alike(Node a, Node b) {
        if (a.sort != b.sort || a.head != b.head || a.number != b.number) {
            return false;
        }
        for (int i = 0; i < a.parts.size(); i++) {
            if (!alike(a.parts.get(i), b.parts.get(i))) {
                return false;
            }
        }
        return true;
    }

    Pattern patternOf(int p) {
        return p < 0 || p >= 40 ? null : patterns[p];
    }

    Node nodeOf(int n) {
        return tree == null || n < 0 || n >= tree.all().size() ? null : tree.all().get(n);
    }

    int kindOf(Node n) {
        return n.sort == 'h' ? heads.get(n.head)[0] : 0;
    }

    boolean isWild(Node n) {
        return n.sort == '.' || n.sort == '!' || n.sort == 'h' && heads.get(n.head)[2] == 1;
    }

    boolean inNet(Pattern p) {
        return p.top.all().stream().noneMatch(this::isWild);
    }

    Node take(boolean asPattern, int most) {
        int[] bytes = tape.stream().mapToInt(b -> b).toArray();
        tape = new ArrayList<>();
        Node top = new Text(bytes, asPattern, most).read();
        place = NONE;
        return top;
    }

    /** A machine that goes over the bytes one by one, with a stack of what is open. */
    final class Text {
        final int[] bytes;
        final boolean asPattern;
        final int most;
        final List<Node> open = new ArrayList<>();
        Node top;
        Node latest;
        int nodes;
        int i;
        String state = "node";

        Text(int[] bytes, boolean asPattern, int most) {
            this.bytes = bytes;
            this.asPattern = asPattern;
            this.most = most;
        }

        int sign(int at) {
            return at < bytes.length ? bytes[at] : NONE;
        }

        boolean digit(int at) {
            return sign(at) >= '0' && sign(at) <= '9';
        }

        Node read() {
            while (i < bytes.length) {
                if (bytes[i] == 32 || bytes[i] == 10) {
                    blank();
                } else {
                    step();
                }
            }
            while (!(state.equals("behind") && open.isEmpty())) {
                step();
            }
            return top;
        }

        void blank() {
            if (state.equals("point")) {
                throw new Fault(1, i);
            }
            if (state.equals("name")) {
                state = "colon";
            }
            i++;
        }

        void step() {
            int c = sign(i);
            switch (state) {
                case "node": startNode(c); break;
                case "point": need(c == '.'); i++; state = "node"; break;
                case "name":
                    if (digit(i)) {
                        latest.name = c - '0';
                        i++;
                    }
                    state = "colon";
                    break;
                case "colon":
                    state = c == ':' ? "kind" : "bracket";
                    i += c == ':' ? 1 : 0;
                    break;
                case "kind": kind(); state = "bracket"; break;
                case "bracket":
                    if (c == '[') {
                        i++;
                        latest.span = new long[2];
                        state = "first";
                    } else {
                        ended();
                    }
                    break;
                case "first": latest.span[0] = number(); state = "wave"; break;
                case "wave": need(c == '~'); i++; state = "second"; break;
                case "second": latest.span[1] = number(); state = "close"; break;
                case "close": need(c == ']'); i++; ended(); break;
                case "behindHead": behindHead(c); break;
                default: behind(c); break;
            }
        }

        void need(boolean yes) {
            if (!yes) {
                throw new Fault(1, i);
            }
        }

        void startNode(int c) {
            boolean letter = c >= 'a' && c <= 'z';
            boolean number = c == '-' || digit(i);
            boolean over = asPattern && (c == '.' || c == '!');
            need(letter || number || over || asPattern && c == '?');
            if (letter && c - 'a' >= heads.size()) {
                throw new Fault(2, i);
            }
            if (number && run(c == '-' ? i + 1 : i) > 18) {
                throw new Fault(3, i);
            }
            if (nodes == most) {
                throw new Fault(4, i);
            }
            if (over && open.size() >= 12) {
                throw new Fault(5, i);
            }
            latest = new Node();
            latest.sort = letter ? 'h' : number ? 'n' : (char) c;
            nodes++;
            if (open.isEmpty()) {
                top = latest;
            } else {
                latest.over = open.get(open.size() - 1);
                latest.over.parts.add(latest);
            }
            if (number) {
                latest.number = number();
                ended();
                return;
            }
            i++;
            if (letter) {
                latest.head = c - 'a';
            }
            if (over) {
                open.add(latest);
            }
            state = letter ? "behindHead" : c == '.' ? "point" : c == '!' ? "node" : "name";
        }

        int run(int from) {
            int end = from;
            while (digit(end)) {
                end++;
            }
            return end - from;
        }

        long number() {
            int start = i;
            boolean minus = sign(i) == '-';
            int digits = run(minus ? i + 1 : i);
            if (digits > 18) {
                throw new Fault(3, start);
            }
            if (digits == 0) {
                throw new Fault(1, minus ? i + 1 : i);
            }
            StringBuilder s = new StringBuilder();
            for (int end = i + digits + (minus ? 1 : 0); i < end; i++) {
                s.append((char) bytes[i]);
            }
            return Long.parseLong(s.toString());
        }

        void kind() {
            int start = i;
            need(digit(i));
            long k = number();
            if (!isKind(k)) {
                throw new Fault(3, start);
            }
            latest.kind = (int) k;
        }

        void behindHead(int c) {
            int parts = heads.get(latest.head)[1];
            if (parts == 0) {
                if (c == '(') {
                    throw new Fault(6, i);
                }
                ended();
                return;
            }
            if (c != '(') {
                throw new Fault(6, i);
            }
            if (open.size() >= 12) {
                throw new Fault(5, i);
            }
            open.add(latest);
            i++;
            state = "node";
        }

        void ended() {
            state = "behind";
            while (!open.isEmpty() && open.get(open.size() - 1).sort != 'h') {
                open.remove(open.size() - 1);
            }
        }

        void behind(int c) {
            need(!open.isEmpty());
            Node over = open.get(open.size() - 1);
            boolean more = over.parts.size() < heads.get(over.head)[1];
            if (c == (more ? ')' : ',')) {
                throw new Fault(6, i);
            }
            need(c == (more ? ',' : ')'));
            i++;
            if (more) {
                state = "node";
            } else {
                open.remove(open.size() - 1);
                ended();
            }
        }
    }

    // ---- asking

    interface Then {
        void go();
    }

    static final class Search {
        int tries;
        boolean spent;
        boolean many;
        final Set<List<Integer>> fillings = new LinkedHashSet<>();
    }

    Search search(Pattern p, Node at) {
        Search search = new Search();
        Node[] filled = new Node[10];
        try {
            fit(search, p.top, at, filled, () -> {
                List<Integer> filling = new ArrayList<>();
                for (Node n : filled) {
                    filling.add(n == null ? NONE : n.id);
                }
                if (search.fillings.size() == 30 && !search.fillings.contains(filling)) {
                    search.many = true;
                    throw new Stop();
                }
                search.fillings.add(filling);
            });
        } catch (Stop stop) {
            return search;
        }
        return search;
    }

    void fit(Search search, Node p, Node t, Node[] filled, Then then) {
        if (search.tries == 2000) {
            search.spent = true;
            throw new Stop();
        }
        search.tries++;
        if (p.sort == 'h') {
            if (t.head == p.head) {
                for (List<Node> order : orders(t.parts, heads.get(p.head)[2] == 1)) {
                    fitParts(search, p.parts, order, filled, then);
                }
            }
        } else if (p.sort == 'n') {
            if (t.sort == 'n' && t.number == p.number) {
                then.go();
            }
        } else if (p.sort == '?') {
            fitHole(p, t, filled, then);
        } else if (p.sort == '.') {
            for (Node below : t.all()) {
                fit(search, p.parts.get(0), below, filled, then);
            }
        } else if (!somewhere(search, p.parts.get(0), t, filled)) {
            then.go();
        }
    }

    boolean somewhere(Search search, Node p, Node t, Node[] filled) {
        for (Node below : t.all()) {
            Node[] copy = filled.clone();
            try {
                fit(search, p, below, copy, () -> {
                    throw new Hit();
                });
            } catch (Hit hit) {
                return true;
            }
        }
        return false;
    }

    void fitParts(Search search, List<Node> parts, List<Node> nodes, Node[] filled, Then then) {
        if (parts.isEmpty()) {
            then.go();
            return;
        }
        fit(search, parts.get(0), nodes.get(0), filled, () -> fitParts(search,
            parts.subList(1, parts.size()), nodes.subList(1, nodes.size()), filled, then));
    }

    void fitHole(Node p, Node t, Node[] filled, Then then) {
        if (!fitsHole(p, t)) {
            return;
        }
        if (p.name == NONE) {
            then.go();
        } else if (filled[p.name] == null) {
            filled[p.name] = t;
            then.go();
            filled[p.name] = null;
        } else if (alike(filled[p.name], t)) {
            then.go();
        }
    }

    boolean fitsHole(Node hole, Node t) {
        return under(kindOf(t), hole.kind)
            && (hole.span == null || t.sort == 'n' && t.number >= hole.span[0] && t.number <= hole.span[1]);
    }

    static List<List<Node>> orders(List<Node> nodes, boolean loose) {
        List<List<Node>> orders = new ArrayList<>();
        if (nodes.isEmpty() || !loose) {
            orders.add(nodes);
            return orders;
        }
        for (int i = 0; i < nodes.size(); i++) {
            List<Node> others = new ArrayList<>(nodes);
            Node first = others.remove(i);
            for (List<Node> rest : orders(others, true)) {
                List<Node> order = new ArrayList<>();
                order.add(first);
                order.addAll(rest);
                orders.add(order);
            }
        }
        return orders;
    }

    int ask() {
        if (tree == null) {
            return STATE;
        }
        List<Pattern> fitting = new ArrayList<>();
        for (Pattern p : patterns) {
            if (p != null) {
                p.asked = search(p, tree);
                if (!p.asked.fillings.isEmpty()) {
                    fitting.add(p);
                }
            }
        }
        fitting.sort((p, q) -> p.rank != q.rank ? p.rank - q.rank : p.number - q.number);
        fits = new ArrayList<>();
        fitting.forEach(p -> fits.add(p.number));
        return fits.size();
    }

    int fit(int i) {
        return fits == null ? STATE : i < 0 || i >= fits.size() ? NONE : fits.get(i);
    }

    int fillings(int p) {
        return patternOf(p) == null ? UNKNOWN : fits == null ? STATE : patterns[p].asked.fillings.size();
    }

    int filling(int p, int f, int n) {
        if (patternOf(p) == null) {
            return UNKNOWN;
        }
        if (fits == null) {
            return STATE;
        }
        List<List<Integer>> all = new ArrayList<>(patterns[p].asked.fillings);
        return f < 0 || f >= all.size() ? UNKNOWN : n < 0 || n > 9 ? OUTSIDE : all.get(f).get(n);
    }

    int asked(int p, int what) {
        if (patternOf(p) == null) {
            return UNKNOWN;
        }
        if (what < 0 || what > 2) {
            return OUTSIDE;
        }
        if (fits == null) {
            return STATE;
        }
        Search s = patterns[p].asked;
        return what == 0 ? s.tries : what == 1 ? (s.spent ? 1 : 0) : s.many ? 1 : 0;
    }

    int at(int p, int node) {
        return patternOf(p) == null || nodeOf(node) == null ? UNKNOWN
            : search(patterns[p], nodeOf(node)).fillings.size();
    }

    int found(int p, int i) {
        if (patternOf(p) == null) {
            return UNKNOWN;
        }
        List<Integer> nodes = new ArrayList<>();
        for (int n = 0; n < count(3); n++) {
            if (!search(patterns[p], nodeOf(n)).fillings.isEmpty()) {
                nodes.add(n);
            }
        }
        return i < 0 || i >= nodes.size() ? NONE : nodes.get(i);
    }

    // ---- the net

    List<Pattern> net() {
        List<Pattern> in = new ArrayList<>();
        for (Pattern p : patterns) {
            if (p != null && inNet(p)) {
                in.add(p);
            }
        }
        return in;
    }

    /** MARKS as words: h HEAD; n NUMBER; H or A with its i, then KIND and SPAN. */
    List<String> row(Pattern p) {
        List<String> row = new ArrayList<>();
        List<Integer> holeNames = new ArrayList<>();
        for (Node n : p.top.all()) {
            if (n.sort == 'h') {
                row.add("h " + n.head);
            } else if (n.sort == 'n') {
                row.add("n " + n.number);
            } else {
                int first = n.name == NONE ? NONE : holeNames.indexOf(n.name);
                String span = n.span == null ? "" : " " + n.span[0] + " " + n.span[1];
                row.add((first == NONE ? "H 0 " : "A " + first + " ") + n.kind + span);
                holeNames.add(n.name);
            }
        }
        return row;
    }

    static Set<List<String>> beginnings(List<String> row) {
        Set<List<String>> all = new HashSet<>();
        for (int n = 1; n <= row.size(); n++) {
            all.add(new ArrayList<>(row.subList(0, n)));
        }
        return all;
    }

    Set<List<String>> steps() {
        Set<List<String>> all = new HashSet<>();
        net().forEach(p -> all.addAll(beginnings(row(p))));
        return all;
    }

    /** The node at which the first mark stands that does not go; null: all go. */
    Node partsAt(List<String> marks, int[] howMany) {
        List<Node> todo = new ArrayList<>();
        List<Node> passed = new ArrayList<>();
        todo.add(tree);
        howMany[0] = 0;
        for (String mark : marks) {
            Node t = todo.remove(0);
            if (!goes(mark.split(" "), t, passed)) {
                return t;
            }
            howMany[0]++;
            if (mark.startsWith("h")) {
                todo.addAll(0, t.parts);
            } else if (!mark.startsWith("n")) {
                passed.add(t);
            }
        }
        return null;
    }

    boolean goes(String[] mark, Node t, List<Node> passed) {
        if (mark[0].equals("h")) {
            return t.head == Integer.parseInt(mark[1]);
        }
        if (mark[0].equals("n")) {
            return t.sort == 'n' && t.number == Long.parseLong(mark[1]);
        }
        Node hole = new Node();
        hole.kind = Integer.parseInt(mark[2]);
        hole.span = mark.length == 3 ? null : new long[] {Long.parseLong(mark[3]), Long.parseLong(mark[4])};
        return fitsHole(hole, t) && (mark[0].equals("H") || alike(passed.get(Integer.parseInt(mark[1])), t));
    }

    int looks(Set<List<String>> steps) {
        int looks = 0;
        for (List<String> step : steps) {
            looks += partsAt(step.subList(0, step.size() - 1), new int[1]) == null ? 1 : 0;
        }
        return looks;
    }

    int looks(int what) {
        if (what < 0 || what > 1) {
            return OUTSIDE;
        }
        if (tree == null) {
            return STATE;
        }
        return what == 0 ? looks(steps()) : net().stream().mapToInt(p -> looks(beginnings(row(p)))).sum();
    }

    int parts(int p, int what) {
        if (patternOf(p) == null) {
            return UNKNOWN;
        }
        if (what < 0 || what > 1) {
            return OUTSIDE;
        }
        if (!inNet(patterns[p]) || tree == null) {
            return STATE;
        }
        int[] mark = new int[1];
        Node node = partsAt(row(patterns[p]), mark);
        return node == null ? NONE : what == 0 ? mark[0] : node.id;
    }

    int shared(int p, int q) {
        if (patternOf(p) == null || patternOf(q) == null) {
            return UNKNOWN;
        }
        if (!inNet(patterns[p]) || !inNet(patterns[q])) {
            return STATE;
        }
        Set<List<String>> both = beginnings(row(patterns[p]));
        both.retainAll(beginnings(row(patterns[q])));
        return both.size();
    }

    int clash(int p, int q) {
        if (patternOf(p) == null || patternOf(q) == null) {
            return UNKNOWN;
        }
        if (!inNet(patterns[p]) || !inNet(patterns[q]) || told(p, 3) > told(p, 4) || told(q, 3) > told(q, 4)) {
            return STATE;
        }
        Node both = treeOf(patterns[p].top, patterns[q].top);
        if (both == null) {
            return 0;
        }
        if (search(patterns[p], both).fillings.isEmpty() || search(patterns[q], both).fillings.isEmpty()) {
            throw new IllegalStateException("the model's own tree does not fit");
        }
        return 1;
    }

    Node any() {
        Node hole = new Node();
        hole.sort = '?';
        return hole;
    }

    /** Some tree that fits both, or null. */
    Node treeOf(Node a, Node b) {
        if (a.sort == '?' && b.sort == '?') {
            return treeOfHoles(a, b);
        }
        if (a.sort == '?') {
            return treeOf(b, a);
        }
        Node t = new Node();
        t.sort = a.sort;
        t.head = a.head;
        t.number = a.number;
        if (b.sort == '?' ? !fitsHole(b, t) : a.sort != b.sort || a.head != b.head || a.number != b.number) {
            return null;
        }
        for (int i = 0; i < a.parts.size(); i++) {
            Node part = treeOf(a.parts.get(i), b.sort == '?' ? any() : b.parts.get(i));
            if (part == null) {
                return null;
            }
            t.parts.add(part);
        }
        return t;
    }

    /** One of the trees that could be it at all is: each number that a SPAN ends at, 0, each HEAD over 0s. */
    Node treeOfHoles(Node a, Node b) {
        List<Node> candidates = new ArrayList<>();
        candidates.add(numberNode(0));
        for (Node hole : List.of(a, b)) {
            if (hole.span != null) {
                candidates.add(numberNode(hole.span[0]));
                candidates.add(numberNode(hole.span[1]));
            }
        }
        for (int h = 0; h < heads.size(); h++) {
            Node t = new Node();
            t.sort = 'h';
            t.head = h;
            for (int i = 0; i < heads.get(h)[1]; i++) {
                t.parts.add(numberNode(0));
            }
            candidates.add(t);
        }
        return candidates.stream().filter(t -> fitsHole(a, t) && fitsHole(b, t)).findFirst().orElse(null);
    }

    static Node numberNode(long number) {
        Node t = new Node();
        t.sort = 'n';
        t.number = number;
        return t;
    }

    // ---- what comes out

    static String printed(Node n) {
        StringBuilder parts = new StringBuilder();
        for (Node part : n.parts) {
            parts.append(parts.length() > 0 ? "," : "").append(printed(part));
        }
        switch (n.sort) {
            case 'h': return (char) ('a' + n.head) + (n.parts.isEmpty() ? "" : "(" + parts + ")");
            case 'n': return Long.toString(n.number);
            case '.': return ".." + parts;
            case '!': return "!" + parts;
            default: return "?" + (n.name == NONE ? "" : n.name) + (n.kind == 0 ? "" : ":" + n.kind)
                + (n.span == null ? "" : "[" + n.span[0] + "~" + n.span[1] + "]");
        }
    }

    int putOut(Node n) {
        out = new ArrayList<>();
        printed(n).chars().forEach(out::add);
        return out.size();
    }

    int print(int p) {
        return patternOf(p) == null ? UNKNOWN : putOut(patterns[p].top);
    }

    int printNode(int n) {
        return nodeOf(n) == null ? UNKNOWN : putOut(nodeOf(n));
    }

    int out(int i) {
        return i < 0 || i >= out.size() ? NONE : out.get(i);
    }

    int back() {
        tape = new ArrayList<>(out.subList(0, Math.min(1000, out.size())));
        return tape.size();
    }
}
