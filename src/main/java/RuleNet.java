/** A net of patterns over trees; the document ../shared/DOC.md says what each call promises. */
public final class RuleNet {
    public static final int NONE = -1, UNKNOWN = -1001, OUTSIDE = -1002, STATE = -1003, FULL = -1004;

    private static final int MOST_PATTERNS = 40, MOST_RANK = 1000;
    private static final int PATTERN_NODES = 24, TREE_NODES = 120, NAMES = 10;
    private static final int TAPE_BYTES = 1000, FED_BYTES = 20;
    // 120 nodes, each of 19 bytes and a comma or of a letter and its brackets, stay below this.
    private static final int OUT_BYTES = 3000;
    private static final int NO_FAULT = 0, FAULT_BASE = -10;

    private final Heads heads;
    private final Text tape;
    private final Text printed;
    private final Nodes theTree;
    private final Nodes draft;
    private final Pattern[] patterns;
    private final Reader reader;
    private final Matcher matcher;
    private final Net net;
    private final Findings findings;
    private final Answer spareAnswer;
    private final int[] fitting;
    private int fittingCount;
    private boolean isAsked;

    public RuleNet() {
        heads = new Heads();
        tape = new Text(TAPE_BYTES);
        printed = new Text(OUT_BYTES);
        theTree = new Nodes(TREE_NODES);
        draft = new Nodes(TREE_NODES);
        patterns = new Pattern[MOST_PATTERNS];
        for (int p = 0; p < MOST_PATTERNS; p++) {
            patterns[p] = new Pattern();
        }
        spareAnswer = new Answer();
        reader = new Reader(heads, tape, draft);
        matcher = new Matcher(heads, theTree, spareAnswer);
        findings = new Findings(matcher, theTree, spareAnswer);
        net = new Net(heads, theTree, patterns);
        fitting = new int[MOST_PATTERNS];
    }

    // ---- kinds, heads, texts

    public int kind(int under) {
        if (!heads.hasKind(under)) {
            return UNKNOWN;
        }
        return heads.addKind(under);
    }

    public int isUnder(int a, int b) {
        if (!heads.hasKind(a) || !heads.hasKind(b)) {
            return UNKNOWN;
        }
        return asInt(heads.isBelow(a, b));
    }

    public int head(int kind, int parts, boolean loose) {
        if (!heads.hasKind(kind)) {
            return UNKNOWN;
        }
        if (parts < 0 || parts > Heads.MOST_PARTS) {
            return OUTSIDE;
        }
        return heads.addHead(kind, parts, loose);
    }

    public int feed(int a, int b, int c, int d, int e) {
        if (tape.length > TAPE_BYTES - FED_BYTES) {
            return FULL;
        }
        tape.addFour(a);
        tape.addFour(b);
        tape.addFour(c);
        tape.addFour(d);
        tape.addFour(e);
        return tape.length;
    }

    public int cut(int n) {
        if (n < 0 || n > tape.length) {
            return OUTSIDE;
        }
        int gone = tape.length - n;
        tape.length = n;
        return gone;
    }

    public int pattern(int rank) {
        if (rank < 0 || rank > MOST_RANK) {
            return OUTSIDE;
        }
        int p = freeNumber();
        if (p == NONE) {
            return FULL;
        }
        int fault = reader.read(true, PATTERN_NODES);
        if (fault != NO_FAULT) {
            return FAULT_BASE - fault;
        }
        patterns[p].take(draft, rank, heads);
        forgetAnswers();
        return p;
    }

    public int drop(int p) {
        Pattern dropped = patternOf(p);
        if (dropped == null) {
            return UNKNOWN;
        }
        dropped.present = false;
        forgetAnswers();
        return presentPatterns();
    }

    public int tree() {
        return replaceInTree(0, theTree.count);
    }

    public int change(int node) {
        if (!theTree.has(node)) {
            return UNKNOWN;
        }
        return replaceInTree(node, theTree.size[node]);
    }

    public int place() {
        return reader.place;
    }

    public int count(int what) {
        switch (what) {
            case 0:
                return heads.kinds;
            case 1:
                return heads.heads;
            case 2:
                return presentPatterns();
            case 3:
                return theTree.count;
            case 4:
                return net.patternsIn();
            case 5:
                return net.stepsIn();
            case 6:
                return net.marksIn();
            case 7:
                return tape.length;
            case 8:
                return printed.length;
            default:
                return OUTSIDE;
        }
    }

    public int told(int p, int what) {
        Pattern pattern = patternOf(p);
        if (pattern == null) {
            return UNKNOWN;
        }
        switch (what) {
            case 0:
                return pattern.rank;
            case 1:
                return pattern.nodes.count;
            case 2:
                return asInt(pattern.isInNet());
            case 3:
                return pattern.namedHoles;
            case 4:
                return pattern.names;
            case 5:
                return pattern.wild;
            default:
                return OUTSIDE;
        }
    }

    public long node(int n, int what) {
        if (!theTree.has(n)) {
            return UNKNOWN;
        }
        switch (what) {
            case 0:
                return theTree.head[n];
            case 1:
                return theTree.number[n];
            case 2:
                return theTree.parent[n];
            case 3:
                return theTree.size[n];
            case 4:
                return heads.kindOfNode(theTree, n);
            default:
                return OUTSIDE;
        }
    }

    public int alike(int a, int b) {
        if (!theTree.has(a) || !theTree.has(b)) {
            return UNKNOWN;
        }
        return asInt(theTree.areAlike(a, b));
    }

    // ---- asking

    public int ask() {
        if (theTree.count == 0) {
            return STATE;
        }
        if (!isAsked) {
            askAll();
        }
        return fittingCount;
    }

    public int fit(int i) {
        if (!isAsked) {
            return STATE;
        }
        return i >= 0 && i < fittingCount ? fitting[i] : NONE;
    }

    public int fillings(int p) {
        Pattern pattern = patternOf(p);
        if (pattern == null) {
            return UNKNOWN;
        }
        return isAsked ? pattern.answer.count : STATE;
    }

    public int filling(int p, int f, int n) {
        Pattern pattern = patternOf(p);
        if (pattern == null) {
            return UNKNOWN;
        }
        // The document puts STATE ahead of the FILLING, and with it ahead of the NAME behind that.
        if (!isAsked) {
            return STATE;
        }
        if (!pattern.answer.has(f)) {
            return UNKNOWN;
        }
        return n >= 0 && n < NAMES ? pattern.answer.nodeOf(f, n) : OUTSIDE;
    }

    public int asked(int p, int what) {
        Pattern pattern = patternOf(p);
        if (pattern == null) {
            return UNKNOWN;
        }
        if (what < 0 || what > 2) {
            return OUTSIDE;
        }
        if (!isAsked) {
            return STATE;
        }
        if (what == 0) {
            return pattern.answer.tries;
        }
        return asInt(what == 1 ? pattern.answer.spent : pattern.answer.many);
    }

    public int at(int p, int node) {
        Pattern pattern = patternOf(p);
        if (pattern == null || !theTree.has(node)) {
            return UNKNOWN;
        }
        matcher.run(pattern, node, spareAnswer, false);
        return spareAnswer.count;
    }

    public int found(int p, int i) {
        Pattern pattern = patternOf(p);
        if (pattern == null) {
            return UNKNOWN;
        }
        return findings.nodeFound(pattern, i);
    }

    // ---- the net

    public int looks(int what) {
        if (what < 0 || what > 1) {
            return OUTSIDE;
        }
        if (theTree.count == 0) {
            return STATE;
        }
        return net.looksAtTree(what == 0);
    }

    public int parts(int p, int what) {
        Pattern pattern = patternOf(p);
        if (pattern == null) {
            return UNKNOWN;
        }
        if (what < 0 || what > 1) {
            return OUTSIDE;
        }
        if (!pattern.isInNet() || theTree.count == 0) {
            return STATE;
        }
        int mark = net.marksThatGo(pattern);
        if (mark >= pattern.nodes.count) {
            return NONE;
        }
        return what == 0 ? mark : net.stoppedAt;
    }

    public int shared(int p, int q) {
        Pattern a = patternOf(p);
        Pattern b = patternOf(q);
        if (a == null || b == null) {
            return UNKNOWN;
        }
        if (!a.isInNet() || !b.isInNet()) {
            return STATE;
        }
        return net.likeMarks(a, b);
    }

    public int clash(int p, int q) {
        Pattern a = patternOf(p);
        Pattern b = patternOf(q);
        if (a == null || b == null) {
            return UNKNOWN;
        }
        if (!a.isInNet() || !b.isInNet() || a.hasNameTwice() || b.hasNameTwice()) {
            return STATE;
        }
        return asInt(net.haveTreeInCommon(a.nodes, b.nodes));
    }

    // ---- what comes out

    public int print(int p) {
        Pattern pattern = patternOf(p);
        if (pattern == null) {
            return UNKNOWN;
        }
        return Printer.write(pattern.nodes, 0, printed);
    }

    public int printNode(int n) {
        if (!theTree.has(n)) {
            return UNKNOWN;
        }
        return Printer.write(theTree, n, printed);
    }

    public int out(int i) {
        return printed.byteAt(i);
    }

    public int back() {
        tape.length = 0;
        for (int i = 0; i < printed.length && i < TAPE_BYTES; i++) {
            tape.add(printed.byteAt(i));
        }
        return tape.length;
    }

    // ---- what the calls share

    private static int asInt(boolean yes) {
        return yes ? 1 : 0;
    }

    private Pattern patternOf(int p) {
        return p >= 0 && p < MOST_PATTERNS && patterns[p].present ? patterns[p] : null;
    }

    private int freeNumber() {
        for (int p = 0; p < MOST_PATTERNS; p++) {
            if (!patterns[p].present) {
                return p;
            }
        }
        return NONE;
    }

    private int presentPatterns() {
        int all = 0;
        for (int p = 0; p < MOST_PATTERNS; p++) {
            all += asInt(patterns[p].present);
        }
        return all;
    }

    private void forgetAnswers() {
        isAsked = false;
        findings.sought = null;
    }

    private int replaceInTree(int node, int gone) {
        int fault = reader.read(false, TREE_NODES - (theTree.count - gone));
        if (fault != NO_FAULT) {
            return FAULT_BASE - fault;
        }
        theTree.replace(node, gone, draft);
        theTree.link(heads);
        forgetAnswers();
        return theTree.count;
    }

    private void askAll() {
        fittingCount = 0;
        for (int p = 0; p < MOST_PATTERNS; p++) {
            if (patterns[p].present) {
                matcher.run(patterns[p], 0, patterns[p].answer, false);
                if (patterns[p].answer.count > 0) {
                    addFitting(p);
                }
            }
        }
        isAsked = true;
    }

    private void addFitting(int p) {
        int i = fittingCount;
        for (; i > 0 && patterns[fitting[i - 1]].rank > patterns[p].rank; i--) {
            fitting[i] = fitting[i - 1];
        }
        fitting[i] = p;
        fittingCount++;
    }

    /** The KINDS and the HEADS. */
    private static final class Heads {
        static final int MOST_KINDS = 12, MOST_HEADS = 20, MOST_PARTS = 4;

        final int[] upper = new int[MOST_KINDS];
        final int[] headKind = new int[MOST_HEADS];
        final int[] headParts = new int[MOST_HEADS];
        final boolean[] headLoose = new boolean[MOST_HEADS];
        int kinds;
        int heads;

        Heads() {
            upper[0] = NONE;
            kinds = 1;
        }

        boolean hasKind(long k) {
            return k >= 0 && k < kinds;
        }

        boolean hasHead(int h) {
            return h >= 0 && h < heads;
        }

        int addKind(int under) {
            if (kinds >= MOST_KINDS) {
                return FULL;
            }
            upper[kinds] = under;
            kinds++;
            return kinds - 1;
        }

        int addHead(int kind, int parts, boolean loose) {
            if (heads >= MOST_HEADS) {
                return FULL;
            }
            headKind[heads] = kind;
            headParts[heads] = parts;
            headLoose[heads] = loose;
            heads++;
            return heads - 1;
        }

        boolean isBelow(int a, int b) {
            int k = a;
            for (int step = 0; step < MOST_KINDS && hasKind(k); step++) {
                if (k == b) {
                    return true;
                }
                k = upper[k];
            }
            return false;
        }

        boolean someHeadBelow(int kind) {
            for (int h = 0; h < heads; h++) {
                if (isBelow(headKind[h], kind)) {
                    return true;
                }
            }
            return false;
        }

        int kindOfNode(Nodes nodes, int n) {
            return hasHead(nodes.head[n]) ? headKind[nodes.head[n]] : 0;
        }

        int partsOfNode(Nodes nodes, int n) {
            if (nodes.sort[n] == Nodes.HEAD) {
                return hasHead(nodes.head[n]) ? headParts[nodes.head[n]] : 0;
            }
            return nodes.sort[n] == Nodes.BELOW || nodes.sort[n] == Nodes.NOWHERE ? 1 : 0;
        }

        boolean isLooseNode(Nodes nodes, int n) {
            return hasHead(nodes.head[n]) && headLoose[nodes.head[n]];
        }
    }

    /** Bytes, 0 to 255 each. */
    private static final class Text {
        final int[] bytes;
        int length;

        Text(int room) {
            bytes = new int[Math.max(room, 0)];
        }

        int byteAt(int i) {
            return i >= 0 && i < length ? bytes[i] : NONE;
        }

        void add(int b) {
            if (length < bytes.length) {
                bytes[length] = b;
                length++;
            }
        }

        void addFour(int four) {
            for (int shift = 24; shift >= 0; shift -= 8) {
                add(four >>> shift & 255);
            }
        }

        void addNumber(long number) {
            if (number < 0) {
                add('-');
            }
            long left = Math.abs(number);
            long unit = 1;
            for (int digits = 1; digits < Reader.MOST_DIGITS && left / unit >= 10; digits++) {
                unit *= 10;
            }
            for (; unit > 0; unit /= 10) {
                add('0' + (int) (left / unit % 10));
            }
        }
    }

    /** The nodes of a TREE or a PATTERN as they are written, so each stands ahead of all below it. */
    private static final class Nodes {
        static final int HEAD = 0, NUMBER = 1, HOLE = 2, BELOW = 3, NOWHERE = 4;

        final int[] sort;
        final int[] head;
        final int[] kind;
        final int[] name;
        final boolean[] spanned;
        // A hole's SPAN goes from number to last.
        final long[] number;
        final long[] last;
        final int[] parent;
        final int[] size;
        int count;

        Nodes(int most) {
            int room = Math.max(most, 0);
            sort = new int[room];
            head = new int[room];
            kind = new int[room];
            name = new int[room];
            spanned = new boolean[room];
            number = new long[room];
            last = new long[room];
            parent = new int[room];
            size = new int[room];
        }

        boolean has(int n) {
            return n >= 0 && n < count;
        }

        /** A node behind the others, without HEAD, KIND, NAME and SPAN; NONE if there is no room. */
        int add(int nodeSort) {
            if (count >= sort.length) {
                return NONE;
            }
            int n = count;
            sort[n] = nodeSort;
            head[n] = NONE;
            kind[n] = 0;
            name[n] = NONE;
            spanned[n] = false;
            number[n] = 0;
            last[n] = 0;
            count++;
            return n;
        }

        /** In place of the nodes from one on stand those of other nodes; link() must follow. */
        void replace(int from, int gone, Nodes other) {
            int behind = from + gone;
            int shift = other.count - gone;
            if (from < 0 || gone < 0 || behind > count || count + shift > sort.length) {
                return;
            }
            if (shift > 0) {
                for (int n = count - 1; n >= behind; n--) {
                    put(n + shift, this, n);
                }
            } else {
                for (int n = behind; n < count; n++) {
                    put(n + shift, this, n);
                }
            }
            for (int n = 0; n < other.count; n++) {
                put(from + n, other, n);
            }
            count += shift;
        }

        private void put(int to, Nodes other, int n) {
            sort[to] = other.sort[n];
            head[to] = other.head[n];
            kind[to] = other.kind[n];
            name[to] = other.name[n];
            spanned[to] = other.spanned[n];
            number[to] = other.number[n];
            last[to] = other.last[n];
        }

        /** Finds parents and sizes; backwards, so that what lies below a node is known when it comes. */
        void link(Heads heads) {
            for (int n = count - 1; n >= 0; n--) {
                int next = n + 1;
                for (int left = heads.partsOfNode(this, n); left > 0 && next < count; left--) {
                    parent[next] = n;
                    next += size[next];
                }
                size[n] = next - n;
                parent[n] = NONE;
            }
        }

        int partOf(int n, int i) {
            int part = n + 1;
            for (int skipped = 0; skipped < i && part < count; skipped++) {
                part += size[part];
            }
            return part;
        }

        /** PARTS follow from HEADS, so rows of like HEADS and numbers are like trees. */
        boolean areAlike(int a, int b) {
            if (a == b) {
                return true;
            }
            if (!has(a) || !has(b) || size[a] != size[b]) {
                return false;
            }
            for (int i = 0; i < size[a]; i++) {
                if (head[a + i] != head[b + i] || number[a + i] != number[b + i]) {
                    return false;
                }
            }
            return true;
        }

        boolean spanHolds(int hole, long value) {
            return !spanned[hole] || number[hole] <= value && value <= last[hole];
        }
    }

    /** A PATTERN, what is counted of it, and what came when it was ASKED. */
    private static final class Pattern {
        final Nodes nodes = new Nodes(PATTERN_NODES);
        // Of a hole that is AGAIN: how many holes stand ahead of the first with its NAME; else NONE.
        final int[] again = new int[PATTERN_NODES];
        final Answer answer = new Answer();
        boolean present;
        int rank;
        int namedHoles;
        int names;
        int wild;

        void take(Nodes written, int newRank, Heads heads) {
            nodes.replace(0, nodes.count, written);
            nodes.link(heads);
            rank = newRank;
            present = true;
            namedHoles = 0;
            names = 0;
            wild = 0;
            for (int n = 0; n < nodes.count; n++) {
                again[n] = holesAheadOfFirst(n);
                if (nodes.name[n] != NONE) {
                    namedHoles++;
                    names += again[n] == NONE ? 1 : 0;
                }
                wild += isWild(n, heads) ? 1 : 0;
            }
        }

        private boolean isWild(int n, Heads heads) {
            int sort = nodes.sort[n];
            return sort == Nodes.BELOW || sort == Nodes.NOWHERE || heads.isLooseNode(nodes, n);
        }

        private int holesAheadOfFirst(int hole) {
            int holes = 0;
            for (int n = 0; n < hole && nodes.name[hole] != NONE; n++) {
                if (nodes.name[n] == nodes.name[hole]) {
                    return holes;
                }
                holes += nodes.sort[n] == Nodes.HOLE ? 1 : 0;
            }
            return NONE;
        }

        boolean isInNet() {
            return present && wild == 0;
        }

        boolean hasNameTwice() {
            return namedHoles > names;
        }
    }

    /** What came of fitting a PATTERN to a node: the FILLINGS that were kept, TRIES, SPENT and MANY. */
    private static final class Answer {
        static final int MOST_FILLINGS = 30;

        final int[] filled = new int[MOST_FILLINGS * NAMES];
        int count;
        int tries;
        boolean spent;
        boolean many;

        void clear() {
            count = 0;
            tries = 0;
            spent = false;
            many = false;
        }

        boolean has(int f) {
            return f >= 0 && f < count;
        }

        int nodeOf(int f, int name) {
            return filled[f * NAMES + name];
        }

        boolean holds(int[] filling) {
            for (int f = 0; f < count; f++) {
                int like = 0;
                while (like < NAMES && nodeOf(f, like) == filling[like]) {
                    like++;
                }
                if (like == NAMES) {
                    return true;
                }
            }
            return false;
        }

        void keep(int[] filling) {
            if (holds(filling)) {
                return;
            }
            if (count >= MOST_FILLINGS) {
                many = true;
                return;
            }
            System.arraycopy(filling, 0, filled, count * NAMES, NAMES);
            count++;
        }
    }

    /** Takes THE TAPE into the draft, up to the first FAULT. */
    private static final class Reader {
        static final int MOST_DIGITS = 18, MOST_WITHIN = 12;
        static final int MISPLACED = 1, NO_HEAD = 2, NO_VALUE = 3, TOO_MANY = 4, TOO_DEEP = 5, WRONG_PARTS = 6;

        final Heads heads;
        final Text text;
        final Nodes draft;
        boolean asPattern;
        int room;
        int pos;
        long value;
        int fault;
        int place;

        Reader(Heads heads, Text text, Nodes draft) {
            this.heads = heads;
            this.text = text;
            this.draft = draft;
            this.place = NONE;
        }

        /** The number of the FAULT, whose place is kept; the text is empty then in any case. */
        int read(boolean patternWanted, int nodesAllowed) {
            asPattern = patternWanted;
            room = nodesAllowed;
            pos = 0;
            fault = NO_FAULT;
            place = NONE;
            draft.count = 0;
            if (readNode(0)) {
                skipBlanks();
                if (pos < text.length) {
                    fail(MISPLACED, pos);
                }
            }
            text.length = 0;
            return fault;
        }

        private boolean fail(int newFault, int newPlace) {
            fault = newFault;
            place = newPlace;
            return false;
        }

        private void skipBlanks() {
            while (pos < text.length && (text.bytes[pos] == ' ' || text.bytes[pos] == '\n')) {
                pos++;
            }
        }

        /** Where the digits from a place on end. */
        private int endOfDigits(int from) {
            int end = from;
            while (end < text.length && text.bytes[end] >= '0' && text.bytes[end] <= '9') {
                end++;
            }
            return end;
        }

        private void takeDigits(int from, int end) {
            value = 0;
            for (int i = from; i < end && i < text.length; i++) {
                value = value * 10 + (text.bytes[i] - '0');
            }
            pos = end;
        }

        /** within tells how many ( .. and ! are open around the node. */
        private boolean readNode(int within) {
            skipBlanks();
            int b = text.byteAt(pos);
            if (within > MOST_WITHIN) {
                return fail(TOO_DEEP, pos);
            }
            if (b >= 'a' && b <= 'z') {
                return readHead(b - 'a', within);
            }
            if (b == '-' || b >= '0' && b <= '9') {
                return readNumberNode();
            }
            if (asPattern && b == '?') {
                return readHole();
            }
            if (asPattern && b == '.') {
                return readOver(Nodes.BELOW, within);
            }
            if (asPattern && b == '!') {
                return readOver(Nodes.NOWHERE, within);
            }
            return fail(MISPLACED, pos);
        }

        /** The new node's number; NONE: it is one too many, and that is the FAULT. */
        private int addNode(int sort, int start) {
            int n = draft.count < room ? draft.add(sort) : NONE;
            if (n == NONE) {
                fail(TOO_MANY, start);
            }
            return n;
        }

        private boolean readHead(int head, int within) {
            if (!heads.hasHead(head)) {
                return fail(NO_HEAD, pos);
            }
            int n = addNode(Nodes.HEAD, pos);
            if (n == NONE) {
                return false;
            }
            draft.head[n] = head;
            pos++;
            skipBlanks();
            boolean opens = text.byteAt(pos) == '(';
            if (opens != heads.headParts[head] > 0) {
                return fail(WRONG_PARTS, pos);
            }
            return !opens || readParts(heads.headParts[head], within);
        }

        private boolean readParts(int parts, int within) {
            if (within >= MOST_WITHIN) {
                return fail(TOO_DEEP, pos);
            }
            pos++;
            for (int part = 1; part <= parts; part++) {
                if (!readNode(within + 1) || !readBehindPart(part == parts)) {
                    return false;
                }
            }
            return true;
        }

        private boolean readBehindPart(boolean isLast) {
            skipBlanks();
            int due = isLast ? ')' : ',';
            int other = isLast ? ',' : ')';
            int b = text.byteAt(pos);
            if (b != due) {
                return fail(b == other ? WRONG_PARTS : MISPLACED, pos);
            }
            pos++;
            return true;
        }

        private boolean readOver(int sort, int within) {
            if (addNode(sort, pos) == NONE) {
                return false;
            }
            if (within >= MOST_WITHIN) {
                return fail(TOO_DEEP, pos);
            }
            pos++;
            if (sort == Nodes.BELOW) {
                if (text.byteAt(pos) != '.') {
                    return fail(MISPLACED, pos);
                }
                pos++;
            }
            return readNode(within + 1);
        }

        private boolean readNumberNode() {
            int start = pos;
            boolean isRead = readNumber();
            if (fault == NO_VALUE) {
                return false;
            }
            // That it is one too many is a FAULT at its first byte, ahead of what is wrong behind a -.
            int n = addNode(Nodes.NUMBER, start);
            if (n == NONE || !isRead) {
                return false;
            }
            draft.number[n] = value;
            return true;
        }

        private boolean readNumber() {
            boolean isNegative = text.byteAt(pos) == '-';
            int first = isNegative ? pos + 1 : pos;
            int end = endOfDigits(first);
            if (end - first > MOST_DIGITS) {
                return fail(NO_VALUE, pos);
            }
            if (end == first) {
                return fail(MISPLACED, first);
            }
            takeDigits(first, end);
            value = isNegative ? -value : value;
            return true;
        }

        private boolean readHole() {
            int hole = addNode(Nodes.HOLE, pos);
            if (hole == NONE) {
                return false;
            }
            pos++;
            int b = text.byteAt(pos);
            if (b >= '0' && b <= '9') {
                draft.name[hole] = b - '0';
                pos++;
            }
            skipBlanks();
            if (text.byteAt(pos) == ':' && !readKind(hole)) {
                return false;
            }
            skipBlanks();
            return text.byteAt(pos) != '[' || readSpan(hole);
        }

        private boolean readKind(int hole) {
            pos++;
            skipBlanks();
            int first = pos;
            int end = endOfDigits(first);
            if (end == first) {
                return fail(MISPLACED, first);
            }
            if (end - first > MOST_DIGITS) {
                return fail(NO_VALUE, first);
            }
            takeDigits(first, end);
            if (!heads.hasKind(value)) {
                return fail(NO_VALUE, first);
            }
            draft.kind[hole] = (int) value;
            return true;
        }

        private boolean readSpan(int hole) {
            draft.spanned[hole] = true;
            if (!passSign('[') || !readNumber()) {
                return false;
            }
            draft.number[hole] = value;
            if (!passSign('~') || !readNumber()) {
                return false;
            }
            draft.last[hole] = value;
            return passSign(']');
        }

        private boolean passSign(int sign) {
            skipBlanks();
            if (text.byteAt(pos) != sign) {
                return fail(MISPLACED, pos);
            }
            pos++;
            skipBlanks();
            return true;
        }
    }

    /**
     * Fits a PATTERN to a node in all ways. What is still to be fit is a chain of pairs of nodes, so
     * that each choice is followed by all that comes behind it before the next choice is made.
     */
    private static final class Matcher {
        static final int MOST_TRIES = 2000;
        // The ends of chains: of a whole PATTERN, and of what a ! wants nowhere.
        static final int WHOLE = -1, INNER = -2;
        static final int ROW = Heads.MOST_PARTS;
        static final int[] ORDER_COUNTS = {1, 1, 2, 6, 24};
        // The first rows with the first numbers left away are the orders of fewer than four.
        static final int[] ORDERS = {
            0, 1, 2, 3, 0, 1, 3, 2, 0, 2, 1, 3, 0, 2, 3, 1, 0, 3, 1, 2, 0, 3, 2, 1,
            1, 0, 2, 3, 1, 0, 3, 2, 1, 2, 0, 3, 1, 2, 3, 0, 1, 3, 0, 2, 1, 3, 2, 0,
            2, 0, 1, 3, 2, 0, 3, 1, 2, 1, 0, 3, 2, 1, 3, 0, 2, 3, 0, 1, 2, 3, 1, 0,
            3, 0, 1, 2, 3, 0, 2, 1, 3, 1, 0, 2, 3, 1, 2, 0, 3, 2, 0, 1, 3, 2, 1, 0};

        final Heads heads;
        final Nodes tree;
        final int[] filled = new int[NAMES];
        // Each node of a PATTERN stands in the chain once at most.
        final int[] chainPart = new int[PATTERN_NODES];
        final int[] chainNode = new int[PATTERN_NODES];
        final int[] chainNext = new int[PATTERN_NODES];
        int chained;
        Nodes pattern;
        Answer answer;
        boolean firstOnly;

        Matcher(Heads heads, Nodes tree, Answer answer) {
            this.heads = heads;
            this.tree = tree;
            this.pattern = tree;
            this.answer = answer;
        }

        void run(Pattern tried, int node, Answer into, boolean oneIsEnough) {
            pattern = tried.nodes;
            answer = into;
            firstOnly = oneIsEnough;
            answer.clear();
            chained = 0;
            for (int name = 0; name < NAMES; name++) {
                filled[name] = NONE;
            }
            walk(chain(0, node, WHOLE), 1);
        }

        private int chain(int part, int node, int next) {
            if (chained >= PATTERN_NODES) {
                return INNER;
            }
            chainPart[chained] = part;
            chainNode[chained] = node;
            chainNext[chained] = next;
            chained++;
            return chained - 1;
        }

        private boolean walkFrom(int part, int node, int next, int depth) {
            int before = chained;
            boolean ends = walk(chain(part, node, next), depth + 1);
            chained = before;
            return ends;
        }

        /** Fits what a chain holds in all ways; whether nothing more is to be tried for its end. */
        private boolean walk(int link, int depth) {
            if (link < 0) {
                return link == INNER || keepFilling();
            }
            if (depth > PATTERN_NODES || !mayTry() || !tree.has(chainNode[link])) {
                return true;
            }
            int part = chainPart[link];
            switch (pattern.sort[part]) {
                case Nodes.HEAD:
                    return pattern.head[part] == tree.head[chainNode[link]] && walkParts(link, depth);
                case Nodes.NUMBER:
                    return isNumber(chainNode[link], pattern.number[part]) && walk(chainNext[link], depth + 1);
                case Nodes.HOLE:
                    return walkHole(link, depth);
                case Nodes.BELOW:
                    return walkBelow(link, depth);
                default:
                    return walkNowhere(link, depth);
            }
        }

        private boolean keepFilling() {
            answer.keep(filled);
            return firstOnly || answer.many;
        }

        private boolean mayTry() {
            if (answer.tries >= MOST_TRIES) {
                answer.spent = true;
                return false;
            }
            answer.tries++;
            return true;
        }

        private boolean isNumber(int node, long value) {
            return tree.sort[node] == Nodes.NUMBER && tree.number[node] == value;
        }

        private boolean walkParts(int link, int depth) {
            int part = chainPart[link];
            int parts = heads.partsOfNode(pattern, part);
            int orders = heads.isLooseNode(pattern, part) ? ORDER_COUNTS[parts] : 1;
            boolean ends = false;
            for (int order = 0; order < orders && !ends; order++) {
                int before = chained;
                ends = walk(chainParts(link, parts, order), depth + 1);
                chained = before;
            }
            return ends;
        }

        private int chainParts(int link, int parts, int order) {
            int next = chainNext[link];
            for (int i = parts - 1; i >= 0; i--) {
                int skipped = ROW - parts;
                int other = ORDERS[order * ROW + skipped + i] - skipped;
                next = chain(pattern.partOf(chainPart[link], i), tree.partOf(chainNode[link], other), next);
            }
            return next;
        }

        private boolean walkHole(int link, int depth) {
            int hole = chainPart[link];
            int node = chainNode[link];
            if (!fitsHole(heads, tree, node, pattern, hole)) {
                return false;
            }
            int name = pattern.name[hole];
            if (name < 0 || name >= NAMES) {
                return walk(chainNext[link], depth + 1);
            }
            if (filled[name] != NONE) {
                return tree.areAlike(filled[name], node) && walk(chainNext[link], depth + 1);
            }
            filled[name] = node;
            boolean ends = walk(chainNext[link], depth + 1);
            filled[name] = NONE;
            return ends;
        }

        private boolean walkBelow(int link, int depth) {
            int node = chainNode[link];
            int end = node + tree.size[node];
            boolean ends = false;
            for (int n = node; n < end && !ends; n++) {
                ends = walkFrom(chainPart[link] + 1, n, chainNext[link], depth);
            }
            return ends;
        }

        private boolean walkNowhere(int link, int depth) {
            int node = chainNode[link];
            int end = node + tree.size[node];
            for (int n = node; n < end; n++) {
                if (walkFrom(chainPart[link] + 1, n, INNER, depth)) {
                    return answer.spent;
                }
            }
            return walk(chainNext[link], depth + 1);
        }

        /** Whether a node is of a hole's KIND and in its SPAN. */
        static boolean fitsHole(Heads heads, Nodes tree, int node, Nodes pattern, int hole) {
            if (!heads.isBelow(heads.kindOfNode(tree, node), pattern.kind[hole])) {
                return false;
            }
            if (!pattern.spanned[hole]) {
                return true;
            }
            return tree.sort[node] == Nodes.NUMBER && pattern.spanHolds(hole, tree.number[node]);
        }
    }

    /**
     * The nodes at which one PATTERN has a FILLING, kept as far as they were sought, since they are mostly
     * told one after the other.
     */
    private static final class Findings {
        final Matcher matcher;
        final Nodes tree;
        final Answer answer;
        final int[] nodes = new int[TREE_NODES];
        int count;
        int nextNode;
        Pattern sought;

        Findings(Matcher matcher, Nodes tree, Answer answer) {
            this.matcher = matcher;
            this.tree = tree;
            this.answer = answer;
        }

        int nodeFound(Pattern pattern, int i) {
            if (pattern != sought) {
                sought = pattern;
                count = 0;
                nextNode = 0;
            }
            while (nextNode < tree.count && count <= i) {
                matcher.run(pattern, nextNode, answer, true);
                if (answer.count > 0) {
                    nodes[count] = nextNode;
                    count++;
                }
                nextNode++;
            }
            return i >= 0 && i < count ? nodes[i] : NONE;
        }
    }

    /**
     * THE NET. STEPS are counted without being kept: those of a ROW that no ROW ahead of it has are the
     * ones behind the longest beginning that it has in common with one of these.
     */
    private static final class Net {
        final Heads heads;
        final Nodes tree;
        final Pattern[] patterns;
        final int[] passed = new int[PATTERN_NODES];
        int stoppedAt;

        Net(Heads heads, Nodes tree, Pattern[] patterns) {
            this.heads = heads;
            this.tree = tree;
            this.patterns = patterns;
            this.stoppedAt = NONE;
        }

        int patternsIn() {
            int all = 0;
            for (int p = 0; p < patterns.length; p++) {
                all += patterns[p].isInNet() ? 1 : 0;
            }
            return all;
        }

        int marksIn() {
            int all = 0;
            for (int p = 0; p < patterns.length; p++) {
                all += patterns[p].isInNet() ? patterns[p].nodes.count : 0;
            }
            return all;
        }

        int stepsIn() {
            int all = 0;
            for (int p = 0; p < patterns.length; p++) {
                if (patterns[p].isInNet()) {
                    all += patterns[p].nodes.count - stepsOfOthers(p);
                }
            }
            return all;
        }

        /** How many STEPS of a ROW come of PATTERNS with lower numbers, too. */
        private int stepsOfOthers(int p) {
            int most = 0;
            for (int q = 0; q < p; q++) {
                if (patterns[q].isInNet()) {
                    most = Math.max(most, likeMarks(patterns[q], patterns[p]));
                }
            }
            return most;
        }

        int likeMarks(Pattern a, Pattern b) {
            int most = Math.min(a.nodes.count, b.nodes.count);
            int like = 0;
            while (like < most && isLikeMark(a, b, like)) {
                like++;
            }
            return like;
        }

        private boolean isLikeMark(Pattern a, Pattern b, int i) {
            return a.nodes.sort[i] == b.nodes.sort[i]
                && a.nodes.head[i] == b.nodes.head[i]
                && a.nodes.number[i] == b.nodes.number[i]
                && a.nodes.last[i] == b.nodes.last[i]
                && a.nodes.spanned[i] == b.nodes.spanned[i]
                && a.nodes.kind[i] == b.nodes.kind[i]
                && a.again[i] == b.again[i];
        }

        int looksAtTree(boolean sharing) {
            int all = 0;
            for (int p = 0; p < patterns.length; p++) {
                if (patterns[p].isInNet()) {
                    int looked = Math.min(marksThatGo(patterns[p]) + 1, patterns[p].nodes.count);
                    int others = sharing ? stepsOfOthers(p) : 0;
                    all += Math.max(looked - others, 0);
                }
            }
            return all;
        }

        /** How many MARKS of a ROW go with THE TREE; stoppedAt is the node where the next one does not. */
        int marksThatGo(Pattern pattern) {
            Nodes marks = pattern.nodes;
            int holes = 0;
            int node = 0;
            for (int mark = 0; mark < marks.count; mark++) {
                stoppedAt = node;
                if (!tree.has(node) || !goes(pattern, mark, node)) {
                    return mark;
                }
                if (marks.sort[mark] == Nodes.HOLE) {
                    passed[holes] = node;
                    holes++;
                }
                node += marks.sort[mark] == Nodes.HEAD ? 1 : tree.size[node];
            }
            return marks.count;
        }

        private boolean goes(Pattern pattern, int mark, int node) {
            Nodes marks = pattern.nodes;
            if (marks.sort[mark] == Nodes.HEAD) {
                return tree.head[node] == marks.head[mark];
            }
            if (marks.sort[mark] == Nodes.NUMBER) {
                return tree.sort[node] == Nodes.NUMBER && tree.number[node] == marks.number[mark];
            }
            int again = pattern.again[mark];
            return Matcher.fitsHole(heads, tree, node, marks, mark)
                && (again == NONE || tree.areAlike(passed[again], node));
        }

        /** Whether some tree fits both, where no NAME stands twice in one of them. */
        boolean haveTreeInCommon(Nodes a, Nodes b) {
            int i = 0;
            int j = 0;
            while (i < a.count && j < b.count) {
                if (!agree(a, i, b, j)) {
                    return false;
                }
                boolean into = a.sort[i] == Nodes.HEAD && b.sort[j] == Nodes.HEAD;
                i += into ? 1 : a.size[i];
                j += into ? 1 : b.size[j];
            }
            return true;
        }

        /** Of two HEADS only themselves; their PARTS come next. */
        private boolean agree(Nodes a, int i, Nodes b, int j) {
            if (a.sort[i] == Nodes.HOLE) {
                return b.sort[j] == Nodes.HOLE ? holesAgree(a, i, b, j) : holeTakes(a, i, b, j);
            }
            if (b.sort[j] == Nodes.HOLE) {
                return holeTakes(b, j, a, i);
            }
            return a.head[i] == b.head[j] && a.number[i] == b.number[j];
        }

        private boolean holesAgree(Nodes a, int i, Nodes b, int j) {
            boolean isLower = heads.isBelow(a.kind[i], b.kind[j]);
            if (!isLower && !heads.isBelow(b.kind[j], a.kind[i])) {
                return false;
            }
            int lower = isLower ? a.kind[i] : b.kind[j];
            if (!a.spanned[i] && !b.spanned[j]) {
                return lower == 0 || heads.someHeadBelow(lower);
            }
            long first = a.spanned[i] ? a.number[i] : b.number[j];
            if (a.spanned[i] && b.spanned[j]) {
                first = Math.max(first, b.number[j]);
            }
            return lower == 0 && a.spanHolds(i, first) && b.spanHolds(j, first);
        }

        private boolean holeTakes(Nodes holes, int hole, Nodes other, int n) {
            if (!Matcher.fitsHole(heads, other, n, holes, hole)) {
                return false;
            }
            for (int below = n; below < n + other.size[n]; below++) {
                // A hole that takes what a like one takes takes something at all.
                if (other.sort[below] == Nodes.HOLE && !holesAgree(other, below, other, below)) {
                    return false;
                }
            }
            return true;
        }
    }

    /** Writes nodes as the document has them PRINTED. */
    private static final class Printer {
        static int write(Nodes nodes, int first, Text out) {
            out.length = 0;
            int end = nodes.has(first) ? first + nodes.size[first] : first;
            for (int n = first; n < end; n++) {
                writeNode(nodes, n, out);
                if (nodes.size[n] == 1) {
                    writeBehind(nodes, n, first, out);
                } else if (nodes.sort[n] == Nodes.HEAD) {
                    out.add('(');
                }
            }
            return out.length;
        }

        private static void writeNode(Nodes nodes, int n, Text out) {
            switch (nodes.sort[n]) {
                case Nodes.HEAD:
                    out.add('a' + nodes.head[n]);
                    break;
                case Nodes.NUMBER:
                    out.addNumber(nodes.number[n]);
                    break;
                case Nodes.HOLE:
                    writeHole(nodes, n, out);
                    break;
                case Nodes.BELOW:
                    out.add('.');
                    out.add('.');
                    break;
                default:
                    out.add('!');
                    break;
            }
        }

        private static void writeHole(Nodes nodes, int hole, Text out) {
            out.add('?');
            if (nodes.name[hole] != NONE) {
                out.add('0' + nodes.name[hole]);
            }
            if (nodes.kind[hole] != 0) {
                out.add(':');
                out.addNumber(nodes.kind[hole]);
            }
            if (nodes.spanned[hole]) {
                out.add('[');
                out.addNumber(nodes.number[hole]);
                out.add('~');
                out.addNumber(nodes.last[hole]);
                out.add(']');
            }
        }

        /** Closes what ends with a node; a comma, if a part comes behind that. */
        private static void writeBehind(Nodes nodes, int n, int first, Text out) {
            int done = n;
            while (done > first && nodes.parent[done] >= first) {
                int over = nodes.parent[done];
                if (over + nodes.size[over] != n + 1) {
                    out.add(',');
                    return;
                }
                if (nodes.sort[over] == Nodes.HEAD) {
                    out.add(')');
                }
                done = over;
            }
        }
    }
}
