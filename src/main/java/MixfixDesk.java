import java.util.Arrays;

/**
 * A desk for operators with holes anywhere: ranks are told by a graph, a row of words is parsed by
 * all operators at once, its trees are counted, taken up by number, written, and numbered.
 */
public final class MixfixDesk {
    private static final int NONE = -1;
    private static final int RANGE = -2;
    private static final int STATE = -3;
    private static final int FULL = -4;
    private static final int WRONG = -5;
    private static final int SAME = -6;
    private static final int MISFIT = -6;

    private static final int MANY = 1000000000;
    private static final int MOST_BYTES = 1500;
    private static final int MOST_TEXT_WORDS = 750;
    private static final int MOST_WORDS = 40;
    private static final int MOST_SPANS = 820;
    private static final int MOST_NODES = 16;
    private static final int MOST_OPERATORS = 30;
    private static final int MOST_ELEMENTS = 9;
    private static final int MOST_WRITTEN = 600;
    private static final int WORD_BYTES = 8;

    private static final int BLANK = 32;
    private static final long OPEN = 40L;
    private static final long SHUT = 41L;
    private static final long HOLE = 95L;

    private static final int ATOM = -1;
    private static final int EVERY = -1;

    private static final int CLOSED = 0;
    private static final int PREFIX = 1;
    private static final int POSTFIX = 2;
    private static final int INFIX = 3;
    private static final int LEFT = 1;
    private static final int RIGHT = 2;

    private final Text text;
    private final Rules rules;
    private final Chart parsed;
    private final Chart asked;
    private final Tree taken;
    private final Taker taker;
    private final Reader reader;
    private final Ranker ranker;
    private final Page page;
    private boolean isParsed;
    private boolean isTaken;

    public MixfixDesk() {
        text = new Text();
        rules = new Rules();
        parsed = new Chart(rules);
        asked = new Chart(rules);
        taken = new Tree();
        taker = new Taker(rules, parsed, taken);
        reader = new Reader(rules);
        ranker = new Ranker(rules, asked);
        page = new Page();
        isParsed = false;
        isTaken = false;
    }

    public int feed(long v, int n) {
        if (n < 0 || n > WORD_BYTES) {
            return RANGE;
        }
        if (n == 0) {
            text.empty();
            return 0;
        }
        if (text.length() + n > MOST_BYTES) {
            return FULL;
        }
        text.append(v, n);
        return text.length();
    }

    public int node() {
        return rules.nodes() >= MOST_NODES ? FULL : rules.addNode();
    }

    public int arrow(int a, int b) {
        if (!rules.hasNode(a) || !rules.hasNode(b)) {
            return NONE;
        }
        if (rules.hasArrow(a, b)) {
            return 0;
        }
        if (rules.reaches(b, a)) {
            return STATE;
        }
        rules.addArrow(a, b);
        forgetParsed();
        return 1;
    }

    public int cut(int a, int b) {
        if (!rules.hasNode(a) || !rules.hasNode(b)) {
            return NONE;
        }
        if (!rules.hasArrow(a, b)) {
            return 0;
        }
        rules.dropArrow(a, b);
        forgetParsed();
        return 1;
    }

    public int operator(int node, int way) {
        if (!rules.hasNode(node)) {
            return NONE;
        }
        if (way < 0 || way > RIGHT) {
            return RANGE;
        }
        int words = text.split();
        if (!isOperatorRow(text.words(), words)) {
            return WRONG;
        }
        if (rules.find(text.words(), 0, words) >= 0) {
            return SAME;
        }
        if (rules.operators() >= MOST_OPERATORS) {
            return FULL;
        }
        forgetParsed();
        return rules.addOperator(text.words(), words, node, way);
    }

    public int about(int operator, int what) {
        if (!rules.hasOperator(operator)) {
            return NONE;
        }
        switch (what) {
            case 0:
                return rules.home(operator);
            case 1:
                return rules.size(operator);
            case 2:
                return rules.holes(operator);
            case 3:
                return rules.way(operator);
            case 4:
                return rules.kind(operator);
            default:
                return RANGE;
        }
    }

    public int clear() {
        int operators = rules.operators();
        rules.empty();
        forgetParsed();
        return operators;
    }

    public int parse() {
        int words = text.split();
        if (words < 0) {
            return WRONG;
        }
        if (words > MOST_WORDS) {
            return FULL;
        }
        if (words == 0) {
            return RANGE;
        }
        parsed.fill(text.words(), words);
        isParsed = true;
        isTaken = false;
        return parsed.all(0, words);
    }

    public int count(int what) {
        switch (what) {
            case 0:
                return rules.nodes();
            case 1:
                return rules.operators();
            case 2:
                return rules.arrows();
            case 3:
                return isParsed ? parsed.size() : 0;
            default:
                return RANGE;
        }
    }

    public int trees(int i, int j) {
        if (!isParsed) {
            return STATE;
        }
        return parsed.hasWords(i, j) ? parsed.all(i, i + j) : NONE;
    }

    public int with(int i, int j, int operator) {
        if (!isParsed) {
            return STATE;
        }
        if (!parsed.hasWords(i, j)) {
            return NONE;
        }
        if (operator == ATOM) {
            return parsed.atoms(i, i + j);
        }
        return rules.hasOperator(operator) ? parsed.topped(operator, i, i + j) : NONE;
    }

    public int take(int k) {
        if (!isParsed) {
            return STATE;
        }
        if (k < 0 || k >= parsed.all(0, parsed.size())) {
            return NONE;
        }
        taker.unfold(k);
        isTaken = true;
        return taken.operators();
    }

    public int item(int i, int what) {
        if (!isTaken) {
            return STATE;
        }
        if (i < 0 || i >= taken.size()) {
            return NONE;
        }
        switch (what) {
            case 0:
                return taken.top(i);
            case 1:
                return taken.first(i);
            case 2:
                return taken.end(i) - taken.first(i);
            case 3:
                return taken.depth(i);
            default:
                return RANGE;
        }
    }

    public int write() {
        if (!isTaken) {
            return STATE;
        }
        page.fill(parsed, taken);
        return page.length();
    }

    public int octet(int i) {
        return i < 0 || i >= page.length() ? NONE : page.at(i);
    }

    public int number() {
        if (rules.isPart(OPEN) || rules.isPart(SHUT)) {
            return STATE;
        }
        int words = text.split();
        if (words < 0 || !reader.reads(text.words(), words)) {
            return WRONG;
        }
        if (reader.size() > MOST_WORDS) {
            return FULL;
        }
        if (reader.hasMisfit()) {
            return MISFIT;
        }
        asked.fill(reader.words(), reader.size());
        return ranker.rank(reader.tree());
    }

    private void forgetParsed() {
        isParsed = false;
        isTaken = false;
    }

    private static boolean isOperatorRow(long[] row, int size) {
        if (size < 1 || size > MOST_ELEMENTS) {
            return false;
        }
        boolean hasPart = false;
        for (int e = 0; e < size; e++) {
            if (row[e] != HOLE) {
                hasPart = true;
            } else if (e > 0 && row[e - 1] == HOLE) {
                return false;
            }
        }
        return hasPart;
    }

    private static int plus(int a, int b) {
        return Math.min(MANY, a + b);
    }

    private static int times(int a, int b) {
        return (int) Math.min((long) MANY, (long) a * b);
    }

    private static boolean hasBit(int mask, int bit) {
        return (mask >> bit & 1) != 0;
    }

    /** THE TEXT; a word has at most 8 bytes, none of them 0, so one long holds it and tells it from all others. */
    private static final class Text {
        private final byte[] bytes = new byte[MOST_BYTES];
        private final long[] words = new long[MOST_TEXT_WORDS];
        private int length = 0;

        int length() {
            return length;
        }

        long[] words() {
            return words;
        }

        void empty() {
            length = 0;
        }

        void append(long v, int n) {
            for (int k = n - 1; k >= 0 && length < MOST_BYTES; k--) {
                bytes[length] = (byte) (v >>> (8 * k));
                length++;
            }
        }

        /** How many words there are, or -1 if the text is wrong. */
        int split() {
            int found = 0;
            int size = 0;
            long word = 0L;
            for (int k = 0; k <= length; k++) {
                int octet = k < length ? bytes[k] : BLANK;
                if (octet == BLANK) {
                    if (size > 0 && found < MOST_TEXT_WORDS) {
                        words[found] = word;
                        found++;
                    }
                    size = 0;
                    word = 0L;
                } else if (octet < 33 || octet > 126 || size == WORD_BYTES) {
                    return -1;
                } else {
                    word = word << 8 | octet;
                    size++;
                }
            }
            return found;
        }
    }

    /** NODES, ARROWS and OPERATORS, and which operators each outer hole takes. */
    private static final class Rules {
        private final int[] tighter = new int[MOST_NODES];
        private final int[] size = new int[MOST_OPERATORS];
        private final int[] home = new int[MOST_OPERATORS];
        private final int[] way = new int[MOST_OPERATORS];
        private final int[] firstTakes = new int[MOST_OPERATORS];
        private final int[] lastTakes = new int[MOST_OPERATORS];
        private final long[] elements = new long[MOST_OPERATORS * MOST_ELEMENTS];
        private int nodes = 0;
        private int arrows = 0;
        private int operators = 0;

        int nodes() {
            return nodes;
        }

        int arrows() {
            return arrows;
        }

        int operators() {
            return operators;
        }

        boolean hasNode(int a) {
            return a >= 0 && a < nodes;
        }

        boolean hasOperator(int o) {
            return o >= 0 && o < operators;
        }

        int home(int o) {
            return home[o];
        }

        int size(int o) {
            return size[o];
        }

        int way(int o) {
            return way[o];
        }

        long element(int o, int e) {
            return elements[o * MOST_ELEMENTS + e];
        }

        boolean isHole(int o, int e) {
            return elements[o * MOST_ELEMENTS + e] == HOLE;
        }

        int holes(int o) {
            int found = 0;
            for (int e = 0; e < size[o]; e++) {
                if (isHole(o, e)) {
                    found++;
                }
            }
            return found;
        }

        int kind(int o) {
            boolean first = isHole(o, 0);
            boolean last = isHole(o, size[o] - 1);
            if (first) {
                return last ? INFIX : POSTFIX;
            }
            return last ? PREFIX : CLOSED;
        }

        void empty() {
            nodes = 0;
            arrows = 0;
            operators = 0;
            Arrays.fill(tighter, 0);
        }

        int addNode() {
            nodes++;
            return nodes - 1;
        }

        boolean hasArrow(int a, int b) {
            return hasBit(tighter[a], b);
        }

        void addArrow(int a, int b) {
            tighter[a] |= 1 << b;
            arrows++;
            settle();
        }

        void dropArrow(int a, int b) {
            tighter[a] &= ~(1 << b);
            arrows--;
            settle();
        }

        /** Whether a way of arrows, an empty one too, leads from a node to another. */
        boolean reaches(int from, int to) {
            int seen = 1 << from;
            for (int round = 0; round < nodes; round++) {
                for (int q = 0; q < nodes; q++) {
                    if (hasBit(seen, q)) {
                        seen |= tighter[q];
                    }
                }
            }
            return hasBit(seen, to);
        }

        int addOperator(long[] row, int count, int node, int told) {
            int o = operators;
            System.arraycopy(row, 0, elements, o * MOST_ELEMENTS, count);
            size[o] = count;
            home[o] = node;
            way[o] = told;
            operators++;
            settle();
            return o;
        }

        /** The operator whose elements stand in the row, or -1. */
        int find(long[] row, int from, int count) {
            for (int o = 0; o < operators; o++) {
                if (size[o] == count && isAt(o, row, from)) {
                    return o;
                }
            }
            return -1;
        }

        private boolean isAt(int o, long[] row, int from) {
            for (int e = 0; e < size[o]; e++) {
                if (element(o, e) != row[from + e]) {
                    return false;
                }
            }
            return true;
        }

        boolean isPart(long word) {
            if (word == HOLE) {
                return false;
            }
            for (int o = 0; o < operators; o++) {
                for (int e = 0; e < size[o]; e++) {
                    if (element(o, e) == word) {
                        return true;
                    }
                }
            }
            return false;
        }

        /** The operators that a hole takes, as bits. */
        int takes(int o, int e) {
            if (e == 0) {
                return firstTakes[o];
            }
            return e == size[o] - 1 ? lastTakes[o] : EVERY;
        }

        private void settle() {
            for (int o = 0; o < operators; o++) {
                int first = 0;
                int last = 0;
                for (int p = 0; p < operators; p++) {
                    if (kind(p) == CLOSED || hasBit(tighter[home[o]], home[p])) {
                        first |= 1 << p;
                        last |= 1 << p;
                    } else if (home[o] == home[p]) {
                        first |= leans(o, POSTFIX, LEFT) && leans(p, POSTFIX, LEFT) ? 1 << p : 0;
                        last |= leans(o, PREFIX, RIGHT) && leans(p, PREFIX, RIGHT) ? 1 << p : 0;
                    }
                }
                firstTakes[o] = first;
                lastTakes[o] = last;
            }
        }

        private boolean leans(int o, int outward, int side) {
            int kind = kind(o);
            return kind == outward || kind == INFIX && way[o] == side;
        }
    }

    /**
     * How many trees each span of a row of words has. The ways in which the later elements of an operator cover the
     * words up to an end are held for one end at a time, and found again when they are asked for: to hold them for all
     * ends would take ten times the room.
     */
    private static final class Chart {
        private final Rules rules;
        private final long[] words = new long[MOST_WORDS];
        private final int[] atom = new int[MOST_WORDS];
        private int[] all = new int[0];
        private int[] topped = new int[0];
        private int[] firsts = new int[0];
        private int[] ways = new int[0];
        private int size = 0;
        private int operators = 0;

        Chart(Rules told) {
            rules = told;
        }

        int size() {
            return size;
        }

        long word(int i) {
            return words[i];
        }

        boolean hasWords(int i, int j) {
            return i >= 0 && i < size && j >= 1 && j <= size - i;
        }

        int all(int start, int end) {
            return all[span(start, end)];
        }

        int atoms(int start, int end) {
            return end - start == 1 ? atom[start] : 0;
        }

        int topped(int o, int start, int end) {
            return topped[span(start, end) * operators + o];
        }

        void fill(long[] row, int count) {
            size = count;
            operators = rules.operators();
            makeRoom();
            for (int i = 0; i < size; i++) {
                words[i] = row[i];
                atom[i] = row[i] == HOLE || rules.isPart(row[i]) ? 0 : 1;
            }
            for (int end = 1; end <= size; end++) {
                for (int o = 0; o < operators; o++) {
                    openEnd(o, end);
                }
                for (int start = end - 1; start >= 0; start--) {
                    fillSpan(start, end);
                }
            }
        }

        private void makeRoom() {
            int spans = span(0, size + 1);
            int columns = MOST_ELEMENTS + 1;
            all = roomFor(all, spans, MOST_SPANS);
            topped = roomFor(topped, spans * operators, MOST_SPANS * MOST_OPERATORS);
            firsts = roomFor(firsts, spans * operators, MOST_SPANS * MOST_OPERATORS);
            ways = roomFor(ways, operators * columns * (size + 1), MOST_OPERATORS * columns * (MOST_WORDS + 1));
        }

        /** A row at least doubles when it grows, so that all rows ever made take no more than twice the most. */
        private static int[] roomFor(int[] row, int need, int most) {
            return row.length >= need ? row : new int[Math.max(need, Math.min(most, 2 * row.length))];
        }

        private static int span(int start, int end) {
            return end * (end - 1) / 2 + start;
        }

        private int way(int o, int e, int start) {
            return (o * (MOST_ELEMENTS + 1) + e) * (size + 1) + start;
        }

        /** No elements cover no words in one way, and nothing else. */
        private void openEnd(int o, int end) {
            int elements = rules.size(o);
            for (int e = 0; e < elements; e++) {
                ways[way(o, e, end)] = 0;
            }
            for (int at = 0; at < end; at++) {
                ways[way(o, elements, at)] = 0;
            }
            ways[way(o, elements, end)] = 1;
        }

        private void fillSpan(int start, int end) {
            int span = span(start, end);
            int sum = atoms(start, end);
            int live = 0;
            for (int o = 0; o < operators; o++) {
                int those = cover(o, start, end);
                topped[span * operators + o] = those;
                sum = plus(sum, those);
                live |= those > 0 ? 1 << o : 0;
            }
            all[span] = sum;
            for (int o = 0; o < operators; o++) {
                firsts[span * operators + o] = rules.isHole(o, 0) ? fitting(rules.takes(o, 0) & live, start, end) : 0;
                coverLast(o, start, end, live);
            }
        }

        private int fitting(int mask, int start, int end) {
            int sum = atoms(start, end);
            if (mask == 0) {
                return sum;
            }
            int base = span(start, end) * operators;
            for (int o = 0; o < operators; o++) {
                if (hasBit(mask, o)) {
                    sum = plus(sum, topped[base + o]);
                }
            }
            return sum;
        }

        /** Finds the ways of all elements of an operator but a last hole, and answers those of the first. */
        private int cover(int o, int start, int end) {
            int last = rules.size(o) - 1;
            int those = 0;
            for (int e = rules.isHole(o, last) ? last - 1 : last; e >= 0; e--) {
                if (rules.isHole(o, e)) {
                    those = coverHole(o, e, start, end);
                } else {
                    those = words[start] == rules.element(o, e) ? ways[way(o, e + 1, start + 1)] : 0;
                }
                ways[way(o, e, start)] = those;
            }
            return those;
        }

        private int coverHole(int o, int e, int start, int end) {
            int next = way(o, e + 1, 0);
            int sum = 0;
            for (int mid = start + 1; mid < end; mid++) {
                int rest = ways[next + mid];
                if (rest > 0) {
                    int span = span(start, mid);
                    sum = plus(sum, times(e == 0 ? firsts[span * operators + o] : all[span], rest));
                }
            }
            return sum;
        }

        /** A last hole takes the whole span, so it waits until the span's trees are known. */
        private void coverLast(int o, int start, int end, int live) {
            int last = rules.size(o) - 1;
            if (rules.isHole(o, last)) {
                ways[way(o, last, start)] = fitting(rules.takes(o, last) & live, start, end);
            }
        }

        /** Finds again the ways of one operator for one end, from a start on. */
        void recall(int o, int start, int end) {
            openEnd(o, end);
            for (int at = end - 1; at >= start; at--) {
                cover(o, at, end);
                coverLast(o, at, end, EVERY);
            }
        }

        /** In how many ways the elements from e on cover the words from start to the end that was recalled. */
        int waysFrom(int o, int e, int start) {
            return ways[way(o, e, start)];
        }

        /** Of these, e being a hole, those in which it ends before the word mid. */
        int waysThrough(int o, int e, int start, int mid) {
            int rest = ways[way(o, e + 1, mid)];
            if (e == rules.size(o) - 1) {
                return rest == 0 ? 0 : ways[way(o, e, start)];
            }
            int span = span(start, mid);
            return times(e == 0 ? firsts[span * operators + o] : all[span], rest);
        }
    }

    /** The atoms and operators of one tree, from outside to inside, from the left. */
    private static final class Tree {
        private final int[] top = new int[MOST_WORDS];
        private final int[] first = new int[MOST_WORDS];
        private final int[] end = new int[MOST_WORDS];
        private final int[] depth = new int[MOST_WORDS];
        private int size = 0;

        int size() {
            return size;
        }

        int top(int t) {
            return top[t];
        }

        int first(int t) {
            return first[t];
        }

        int end(int t) {
            return end[t];
        }

        int depth(int t) {
            return depth[t];
        }

        void empty() {
            size = 0;
        }

        /** Its number, or -1 if there is no room: then the words are too many as well. */
        int add(int o, int start, int stop, int deep) {
            if (size >= MOST_WORDS) {
                return -1;
            }
            top[size] = o;
            first[size] = start;
            end[size] = stop;
            depth[size] = deep;
            size++;
            return size - 1;
        }

        void settle(int t, int o, int stop) {
            top[t] = o;
            end[t] = stop;
        }

        int operators() {
            int found = 0;
            for (int t = 0; t < size; t++) {
                if (top[t] != ATOM) {
                    found++;
                }
            }
            return found;
        }

        /** The first behind t that is not in t. */
        int beside(int t) {
            int next = t + 1;
            while (next < size && depth[next] > depth[t]) {
                next++;
            }
            return next;
        }
    }

    /** Unfolds the tree of a number: what is still to be unfolded stands on a stack, the leftmost on top. */
    private static final class Taker {
        private final Rules rules;
        private final Chart chart;
        private final Tree tree;
        private final int[] start = new int[MOST_WORDS];
        private final int[] end = new int[MOST_WORDS];
        private final int[] mask = new int[MOST_WORDS];
        private final int[] rank = new int[MOST_WORDS];
        private final int[] depth = new int[MOST_WORDS];
        private int height = 0;

        Taker(Rules toldRules, Chart toldChart, Tree toldTree) {
            rules = toldRules;
            chart = toldChart;
            tree = toldTree;
        }

        void unfold(int k) {
            tree.empty();
            height = 1;
            put(0, 0, chart.size(), EVERY, k, 0);
            for (int step = 0; step < MOST_WORDS && height > 0; step++) {
                height--;
                int o = pick(start[height], end[height], mask[height]);
                tree.add(o, start[height], end[height], depth[height]);
                if (o != ATOM) {
                    spread(o, start[height], end[height], depth[height] + 1);
                }
            }
        }

        private void put(int slot, int from, int to, int takes, int k, int deep) {
            start[slot] = from;
            end[slot] = to;
            mask[slot] = takes;
            rank[slot] = k;
            depth[slot] = deep;
        }

        /** The operator on top of the stack's highest, whose rank is then the one among those of this operator. */
        private int pick(int from, int to, int takes) {
            int left = rank[height] - chart.atoms(from, to);
            for (int o = 0; o < rules.operators() && left >= 0; o++) {
                int those = hasBit(takes, o) ? chart.topped(o, from, to) : 0;
                if (left < those) {
                    rank[height] = left;
                    return o;
                }
                left -= those;
            }
            return ATOM;
        }

        /** Puts what stands in the holes of an operator on the stack, the first hole's highest. */
        private void spread(int o, int from, int to, int deep) {
            int left = rank[height];
            int slot = height + rules.holes(o);
            if (slot > MOST_WORDS) {
                return;
            }
            height = slot;
            chart.recall(o, from, to);
            int at = from;
            for (int e = 0; e < rules.size(o); e++) {
                if (!rules.isHole(o, e)) {
                    at++;
                    continue;
                }
                int mid = at + 1;
                int those = chart.waysThrough(o, e, at, mid);
                while (left >= those && mid < to) {
                    left -= those;
                    mid++;
                    those = chart.waysThrough(o, e, at, mid);
                }
                int rest = Math.max(1, chart.waysFrom(o, e + 1, mid));
                slot--;
                put(slot, at, mid, rules.takes(o, e), left / rest, deep);
                left %= rest;
                at = mid;
            }
        }
    }

    /** Reads a written tree. Its brackets tell its shape, so that no hole is needed to find its operators. */
    private static final class Reader {
        private final Rules rules;
        private final Tree tree = new Tree();
        private final long[] words = new long[MOST_WORDS];
        private final long[] sign = new long[MOST_TEXT_WORDS];
        private final int[] mark = new int[MOST_TEXT_WORDS];
        private int size = 0;
        private int height = 0;
        private int depth = 0;
        private boolean misfit = false;

        Reader(Rules told) {
            rules = told;
        }

        Tree tree() {
            return tree;
        }

        long[] words() {
            return words;
        }

        int size() {
            return size;
        }

        boolean hasMisfit() {
            return misfit;
        }

        /** Whether the row is a tree so written, whatever holes take. */
        boolean reads(long[] row, int count) {
            tree.empty();
            size = 0;
            height = 0;
            depth = 0;
            misfit = false;
            for (int w = 0; w < count; w++) {
                if (!readWord(row[w])) {
                    return false;
                }
            }
            return height == 1 && sign[0] == HOLE;
        }

        private boolean readWord(long word) {
            if (word == HOLE) {
                return false;
            }
            if (word == SHUT) {
                return shut();
            }
            if (word == OPEN) {
                push(OPEN, tree.add(ATOM, size, size, depth));
                depth++;
                return true;
            }
            if (rules.isPart(word)) {
                push(word, -1);
            } else {
                push(HOLE, tree.add(ATOM, size, size + 1, depth));
            }
            if (size < MOST_WORDS) {
                words[size] = word;
            }
            size++;
            return true;
        }

        private void push(long what, int t) {
            if (height < MOST_TEXT_WORDS) {
                sign[height] = what;
                mark[height] = t;
                height++;
            }
        }

        /** What stands behind the last open bracket becomes what stands in a hole. */
        private boolean shut() {
            int open = height - 1;
            while (open >= 0 && sign[open] != OPEN) {
                open--;
            }
            int o = open < 0 ? -1 : rules.find(sign, open + 1, height - open - 1);
            if (o < 0) {
                return false;
            }
            if (!holds(o, 0, open + 1) || !holds(o, rules.size(o) - 1, height - 1)) {
                misfit = true;
            }
            if (mark[open] >= 0) {
                tree.settle(mark[open], o, size);
            }
            sign[open] = HOLE;
            height = open + 1;
            depth--;
            return true;
        }

        private boolean holds(int o, int e, int place) {
            if (!rules.isHole(o, e) || mark[place] < 0) {
                return true;
            }
            int child = tree.top(mark[place]);
            return child == ATOM || hasBit(rules.takes(o, e), child);
        }
    }

    /** Finds the number of a tree by the chart of its words. */
    private static final class Ranker {
        private final Rules rules;
        private final Chart chart;
        private final int[] weight = new int[MOST_WORDS];
        private final int[] mask = new int[MOST_WORDS];

        Ranker(Rules toldRules, Chart toldChart) {
            rules = toldRules;
            chart = toldChart;
        }

        int rank(Tree tree) {
            weight[0] = 1;
            mask[0] = EVERY;
            int sum = 0;
            for (int t = 0; t < tree.size(); t++) {
                if (tree.top(t) != ATOM) {
                    sum = plus(sum, times(weight[t], before(tree, t)));
                }
            }
            return sum;
        }

        /** How many choices for t alone go before its own; what is in it weighs as much as what can follow it. */
        private int before(Tree tree, int t) {
            int o = tree.top(t);
            int end = tree.end(t);
            int at = tree.first(t);
            int sum = beforeOperator(o, at, end, mask[t]);
            int child = t + 1;
            chart.recall(o, at, end);
            for (int e = 0; e < rules.size(o); e++) {
                if (!rules.isHole(o, e) || child >= tree.size()) {
                    at++;
                    continue;
                }
                int stop = tree.end(child);
                for (int mid = at + 1; mid < stop; mid++) {
                    sum = plus(sum, chart.waysThrough(o, e, at, mid));
                }
                weight[child] = times(weight[t], chart.waysFrom(o, e + 1, stop));
                mask[child] = rules.takes(o, e);
                at = stop;
                child = tree.beside(child);
            }
            return sum;
        }

        private int beforeOperator(int o, int start, int end, int takes) {
            int sum = chart.atoms(start, end);
            for (int p = 0; p < o; p++) {
                if (hasBit(takes, p)) {
                    sum = plus(sum, chart.topped(p, start, end));
                }
            }
            return sum;
        }
    }

    /** What was written latest. */
    private static final class Page {
        private final byte[] bytes = new byte[MOST_WRITTEN];
        private int length = 0;

        int length() {
            return length;
        }

        int at(int i) {
            return bytes[i];
        }

        /** The words stand in their order, so each needs only the brackets that open before and shut behind it. */
        void fill(Chart chart, Tree tree) {
            length = 0;
            for (int w = 0; w < chart.size(); w++) {
                for (int t = 0; t < tree.size(); t++) {
                    if (tree.top(t) != ATOM && tree.first(t) == w) {
                        append(OPEN);
                    }
                }
                append(chart.word(w));
                for (int t = 0; t < tree.size(); t++) {
                    if (tree.top(t) != ATOM && tree.end(t) == w + 1) {
                        append(SHUT);
                    }
                }
            }
        }

        private void append(long word) {
            if (length > 0) {
                appendByte(BLANK);
            }
            for (int k = WORD_BYTES - 1; k >= 0; k--) {
                int octet = (int) (word >>> (8 * k)) & 255;
                if (octet != 0) {
                    appendByte(octet);
                }
            }
        }

        private void appendByte(int octet) {
            if (length < MOST_WRITTEN) {
                bytes[length] = (byte) octet;
                length++;
            }
        }
    }
}
