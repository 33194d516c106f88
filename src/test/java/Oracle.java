import java.math.BigInteger;
import java.util.ArrayList;
import java.util.Arrays;
import java.util.HashMap;
import java.util.List;
import java.util.Map;
import java.util.Random;

/** The document's part 2 once more, in the plainest and slowest way: lists of trees, and numbers without a limit. */
final class Oracle {
    record Op(String[] elements, int node, int way) {
        int size() {
            return elements.length;
        }

        boolean hole(int e) {
            return elements[e].equals("_");
        }

        boolean infix() {
            return hole(0) && hole(size() - 1);
        }

        boolean prefix() {
            return !hole(0) && hole(size() - 1);
        }

        boolean postfix() {
            return hole(0) && !hole(size() - 1);
        }

        boolean closed() {
            return !hole(0) && !hole(size() - 1);
        }
    }

    /** op is -1 for an atom; kids are what stands in the holes. */
    record Tree(int op, int first, int words, List<Tree> kids) {
    }

    final boolean[][] arrow = new boolean[16][16];
    final List<Op> ops = new ArrayList<>();
    int nodes;
    String[] words = new String[0];
    private final Map<Integer, List<Tree>> lists = new HashMap<>();
    private final Map<Long, BigInteger> counts = new HashMap<>();

    void parse(String... row) {
        words = row;
        lists.clear();
        counts.clear();
    }

    boolean isPart(String word) {
        return !word.equals("_") && ops.stream().anyMatch(o -> Arrays.asList(o.elements).contains(word));
    }

    boolean isAtom(String word) {
        return !word.equals("_") && !isPart(word);
    }

    /** Whether hole e of operator o takes trees with operator p (-1: atoms). */
    boolean takes(int o, int e, int p) {
        Op outer = ops.get(o);
        boolean first = e == 0;
        boolean last = e == outer.size() - 1;
        if (!first && !last || p < 0) {
            return true;
        }
        Op inner = ops.get(p);
        if (inner.closed() || arrow[outer.node][inner.node]) {
            return true;
        }
        if (outer.node != inner.node) {
            return false;
        }
        if (first) {
            boolean outerOk = outer.postfix() || outer.infix() && outer.way == 1;
            return outerOk && (inner.postfix() || inner.infix() && inner.way == 1);
        }
        boolean outerOk = outer.prefix() || outer.infix() && outer.way == 2;
        return outerOk && (inner.prefix() || inner.infix() && inner.way == 2);
    }

    // ---- all trees, one by one

    List<Tree> list(int first, int count) {
        int key = first * 100 + count;
        List<Tree> known = lists.get(key);
        if (known != null) {
            return known;
        }
        List<Tree> found = new ArrayList<>();
        for (int o = ops.size() - 1; o >= 0; o--) {
            spread(o, 0, first, first, first + count, new ArrayList<>(), found);
        }
        if (count == 1 && isAtom(words[first])) {
            found.add(new Tree(-1, first, 1, List.of()));
        }
        found.sort(this::compare);
        lists.put(key, found);
        return found;
    }

    private void spread(int o, int e, int first, int at, int end, List<Tree> kids, List<Tree> found) {
        Op op = ops.get(o);
        if (end - at < op.size() - e) {
            return;
        }
        if (e == op.size()) {
            if (at == end) {
                found.add(new Tree(o, first, end - first, new ArrayList<>(kids)));
            }
            return;
        }
        if (!op.hole(e)) {
            if (words[at].equals(op.elements[e])) {
                spread(o, e + 1, first, at + 1, end, kids, found);
            }
            return;
        }
        for (int stop = end; stop > at; stop--) {
            if (stop - at == end - first) {
                continue;
            }
            for (Tree kid : list(at, stop - at)) {
                if (takes(o, e, kid.op)) {
                    kids.add(kid);
                    spread(o, e + 1, first, stop, end, kids, found);
                    kids.remove(kids.size() - 1);
                }
            }
        }
    }

    /** Their order, as the document tells it. */
    int compare(Tree a, Tree b) {
        if (a.op != b.op) {
            return Integer.compare(a.op, b.op);
        }
        for (int k = 0; k < a.kids.size(); k++) {
            Tree x = a.kids.get(k);
            Tree y = b.kids.get(k);
            int byKid = x.words != y.words ? Integer.compare(x.words, y.words) : compare(x, y);
            if (byKid != 0) {
                return byKid;
            }
        }
        return 0;
    }

    // ---- numbers of any size

    BigInteger countWith(int first, int count, int o) {
        if (o < 0) {
            return count == 1 && isAtom(words[first]) ? BigInteger.ONE : BigInteger.ZERO;
        }
        return ways(o, 0, first, first + count);
    }

    BigInteger count(int first, int count) {
        BigInteger sum = BigInteger.ZERO;
        for (int o = -1; o < ops.size(); o++) {
            sum = sum.add(countWith(first, count, o));
        }
        return sum;
    }

    private BigInteger fitting(int o, int e, int first, int count) {
        BigInteger sum = BigInteger.ZERO;
        for (int p = -1; p < ops.size(); p++) {
            if (takes(o, e, p)) {
                sum = sum.add(countWith(first, count, p));
            }
        }
        return sum;
    }

    private BigInteger ways(int o, int e, int at, int end) {
        Op op = ops.get(o);
        if (e == op.size()) {
            return at == end ? BigInteger.ONE : BigInteger.ZERO;
        }
        if (end - at < op.size() - e) {
            return BigInteger.ZERO;
        }
        long key = ((o * 20L + e) * 100L + at) * 100L + end;
        BigInteger known = counts.get(key);
        if (known != null) {
            return known;
        }
        BigInteger sum = BigInteger.ZERO;
        if (!op.hole(e)) {
            sum = words[at].equals(op.elements[e]) ? ways(o, e + 1, at + 1, end) : sum;
        } else {
            for (int stop = at + 1; stop <= end; stop++) {
                BigInteger rest = ways(o, e + 1, stop, end);
                if (rest.signum() > 0) {
                    sum = sum.add(rest.multiply(fitting(o, e, at, stop - at)));
                }
            }
        }
        counts.put(key, sum);
        return sum;
    }

    /** The number of a tree among those that a hole takes (o < 0: among all). */
    BigInteger rank(Tree tree, int o, int e) {
        BigInteger sum = BigInteger.ZERO;
        for (int p = -1; p < tree.op; p++) {
            if (o < 0 || takes(o, e, p)) {
                sum = sum.add(countWith(tree.first, tree.words, p));
            }
        }
        if (tree.op < 0) {
            return sum;
        }
        Op op = ops.get(tree.op);
        int end = tree.first + tree.words;
        int at = tree.first;
        int kidAt = 0;
        for (int x = 0; x < op.size(); x++) {
            if (!op.hole(x)) {
                at++;
                continue;
            }
            Tree kid = tree.kids.get(kidAt);
            kidAt++;
            for (int stop = at + 1; stop < at + kid.words; stop++) {
                sum = sum.add(fitting(tree.op, x, at, stop - at).multiply(ways(tree.op, x + 1, stop, end)));
            }
            at += kid.words;
            sum = sum.add(rank(kid, tree.op, x).multiply(ways(tree.op, x + 1, at, end)));
        }
        return sum;
    }

    /** Tree k among those that hole e of operator o takes (o < 0: among all); there must be one. */
    Tree numbered(BigInteger k, int first, int count, int o, int e) {
        BigInteger left = k;
        for (int p = -1; p < ops.size(); p++) {
            BigInteger those = o < 0 || takes(o, e, p) ? countWith(first, count, p) : BigInteger.ZERO;
            if (left.compareTo(those) < 0) {
                return p < 0 ? new Tree(-1, first, 1, List.of()) : numberedWith(left, p, first, count);
            }
            left = left.subtract(those);
        }
        throw new IllegalArgumentException("there is no tree " + k);
    }

    private Tree numberedWith(BigInteger k, int o, int first, int count) {
        List<Tree> kids = new ArrayList<>();
        BigInteger left = k;
        int at = first;
        for (int e = 0; e < ops.get(o).size(); e++) {
            int stop = at + 1;
            if (ops.get(o).hole(e)) {
                BigInteger those = through(o, e, at, stop, first + count);
                while (left.compareTo(those) >= 0) {
                    left = left.subtract(those);
                    stop++;
                    those = through(o, e, at, stop, first + count);
                }
                BigInteger[] parts = left.divideAndRemainder(ways(o, e + 1, stop, first + count));
                kids.add(numbered(parts[0], at, stop - at, o, e));
                left = parts[1];
            }
            at = stop;
        }
        return new Tree(o, first, count, kids);
    }

    private BigInteger through(int o, int e, int at, int stop, int end) {
        BigInteger rest = ways(o, e + 1, stop, end);
        return rest.signum() == 0 ? rest : rest.multiply(fitting(o, e, at, stop - at));
    }

    // ---- written trees

    String written(Tree tree) {
        if (tree.op < 0) {
            return words[tree.first];
        }
        StringBuilder all = new StringBuilder("( ");
        int kid = 0;
        for (String element : ops.get(tree.op).elements) {
            if (element.equals("_")) {
                all.append(written(tree.kids.get(kid)));
                kid++;
            } else {
                all.append(element);
            }
            all.append(' ');
        }
        return all.append(')').toString();
    }

    void flatten(Tree tree, int depth, List<int[]> items) {
        items.add(new int[] {tree.op, tree.first, tree.words, depth});
        for (Tree kid : tree.kids) {
            flatten(kid, depth + 1, items);
        }
    }

    boolean allFits(Tree tree) {
        int kid = 0;
        for (int e = 0; tree.op >= 0 && e < ops.get(tree.op).size(); e++) {
            if (ops.get(tree.op).hole(e)) {
                Tree inner = tree.kids.get(kid);
                kid++;
                if (!takes(tree.op, e, inner.op) || !allFits(inner)) {
                    return false;
                }
            }
        }
        return true;
    }

    /** What number() owes for a text of such tokens, when no operator has the part ( or ) . */
    long number(String[] tokens) {
        List<String> plain = new ArrayList<>();
        int[] at = {0};
        Tree tree = readTree(tokens, at, plain);
        if (tree == null || at[0] != tokens.length) {
            return -5;
        }
        if (plain.size() > 40) {
            return -4;
        }
        if (!allFits(tree)) {
            return -6;
        }
        parse(plain.toArray(new String[0]));
        return rank(tree, -1, -1).min(BigInteger.valueOf(1000000000L)).longValueExact();
    }

    private Tree readTree(String[] tokens, int[] at, List<String> plain) {
        if (at[0] >= tokens.length || tokens[at[0]].equals(")")) {
            return null;
        }
        int first = plain.size();
        String token = tokens[at[0]];
        at[0]++;
        if (!token.equals("(")) {
            plain.add(token);
            return isAtom(token) ? new Tree(-1, first, 1, List.of()) : null;
        }
        List<String> shape = new ArrayList<>();
        List<Tree> kids = new ArrayList<>();
        while (at[0] < tokens.length && !tokens[at[0]].equals(")")) {
            if (isPart(tokens[at[0]])) {
                shape.add(tokens[at[0]]);
                plain.add(tokens[at[0]]);
                at[0]++;
            } else {
                Tree kid = readTree(tokens, at, plain);
                if (kid == null) {
                    return null;
                }
                kids.add(kid);
                shape.add("_");
            }
        }
        at[0]++;
        for (int o = 0; o < ops.size() && at[0] <= tokens.length; o++) {
            if (shape.equals(Arrays.asList(ops.get(o).elements))) {
                return new Tree(o, first, plain.size() - first, kids);
            }
        }
        return null;
    }

    // ---- random grammars and rows

    static Oracle random(Random random, int leastOps, int mostOps, String[] parts) {
        Oracle oracle = new Oracle();
        oracle.nodes = 1 + random.nextInt(random.nextInt(10) == 0 ? 16 : 4);
        for (int a = 0; a < oracle.nodes; a++) {
            for (int b = a + 1; b < oracle.nodes; b++) {
                oracle.arrow[a][b] = random.nextInt(4) > 0;
            }
        }
        int ops = leastOps + random.nextInt(mostOps - leastOps + 1);
        for (int k = 0; k < ops; k++) {
            String[] row = randomRow(random, parts);
            boolean known = oracle.ops.stream().anyMatch(o -> Arrays.equals(o.elements, row));
            if (!known) {
                oracle.ops.add(new Op(row, random.nextInt(oracle.nodes), random.nextInt(3)));
            }
        }
        return oracle;
    }

    private static String[] randomRow(Random random, String[] parts) {
        int size = 1 + random.nextInt(random.nextInt(4) == 0 ? 9 : 4);
        String[] row = new String[size];
        boolean hasPart = false;
        for (int e = 0; e < size; e++) {
            boolean hole = (e == 0 || !row[e - 1].equals("_")) && random.nextInt(5) < 3;
            hole = hole && (hasPart || e < size - 1);
            row[e] = hole ? "_" : parts[random.nextInt(parts.length)];
            hasPart |= !hole;
        }
        return row;
    }

    /** A tree of random operators, most of which fit, with its words behind those that are there. */
    Tree randomTree(Random random, List<String> row, int budget, String[] atoms) {
        return randomTree(random, row, budget, atoms, random.nextInt(ops.size()));
    }

    private Tree randomTree(Random random, List<String> row, int budget, String[] atoms, int o) {
        int first = row.size();
        if (o < 0 || budget < 3) {
            row.add(atoms[random.nextInt(atoms.length)]);
            return new Tree(-1, first, 1, List.of());
        }
        Op op = ops.get(o);
        int holes = (int) Arrays.stream(op.elements).filter(x -> x.equals("_")).count();
        int left = Math.max(holes, budget - (op.size() - holes));
        List<Tree> kids = new ArrayList<>();
        for (int e = 0; e < op.size(); e++) {
            if (!op.hole(e)) {
                row.add(op.elements[e]);
                continue;
            }
            holes--;
            int share = holes == 0 ? left : 1 + random.nextInt(Math.max(1, left - holes));
            int before = row.size();
            kids.add(randomTree(random, row, share, atoms, randomKid(random, o, e)));
            left = Math.max(holes, left - (row.size() - before));
        }
        return new Tree(o, first, row.size() - first, kids);
    }

    private int randomKid(Random random, int o, int e) {
        for (int attempt = 0; attempt < 12; attempt++) {
            int p = random.nextInt(ops.size());
            if (takes(o, e, p) || random.nextInt(60) == 0) {
                return p;
            }
        }
        return -1;
    }

    /** Some tree of the words that hole e of operator o takes (o < 0: any); there must be one. */
    Tree pickTree(Random random, int first, int count, int o, int e) {
        List<Integer> tops = new ArrayList<>();
        for (int p = -1; p < ops.size(); p++) {
            if ((o < 0 || takes(o, e, p)) && countWith(first, count, p).signum() > 0) {
                tops.add(p);
            }
        }
        int top = tops.get(random.nextInt(tops.size()));
        List<Tree> kids = new ArrayList<>();
        int at = first;
        for (int x = 0; top >= 0 && x < ops.get(top).size(); x++) {
            if (!ops.get(top).hole(x)) {
                at++;
                continue;
            }
            List<Integer> stops = new ArrayList<>();
            for (int stop = at + 1; stop <= first + count; stop++) {
                BigInteger rest = ways(top, x + 1, stop, first + count);
                if (rest.signum() > 0 && fitting(top, x, at, stop - at).signum() > 0) {
                    stops.add(stop);
                }
            }
            int stop = stops.get(random.nextInt(stops.size()));
            kids.add(pickTree(random, at, stop - at, top, x));
            at = stop;
        }
        return new Tree(top, first, count, kids);
    }

    /** A new desk with these nodes, arrows and operators. */
    MixfixDesk desk() {
        MixfixDesk desk = new MixfixDesk();
        for (int a = 0; a < nodes; a++) {
            desk.node();
        }
        for (int a = 0; a < nodes; a++) {
            for (int b = 0; b < nodes; b++) {
                if (arrow[a][b]) {
                    desk.arrow(a, b);
                }
            }
        }
        for (Op op : ops) {
            Check.operator(desk, String.join(" ", op.elements), op.node, op.way);
        }
        return desk;
    }
}
