import java.math.BigInteger;
import java.util.ArrayList;
import java.util.Arrays;
import java.util.List;
import java.util.Random;

/** Random operators and rows, the desk against the plain reckoning of Oracle (promises 9 and 11 to 17). */
public final class OracleTest {
    private static final String[] TWO_PARTS = {"+", "-"};
    private static final String[] PARTS = {"+", "-", "if"};
    private static final String[] MORE_PARTS = {"+", "-", "if", "then", "[", "]"};
    private static final String[] ATOMS = {"x", "yy"};
    private static final BigInteger MANY = BigInteger.valueOf(1000000000L);
    private static final Check CHECK = new Check();

    public static void main(String[] args) {
        smallOnes();
        knownForMany();
        largeOnes();
        tokensInAnyOrder();
        CHECK.end();
    }

    private static void smallOnes() {
        int trees = 0;
        for (int seed = 0; seed < 8000; seed++) {
            Random random = new Random(seed);
            Oracle oracle = Oracle.random(random, 1, 14, seed % 4 == 0 ? MORE_PARTS : seed % 4 == 1 ? PARTS : TWO_PARTS);
            List<String> row = new ArrayList<>();
            oracle.randomTree(random, row, 3 + random.nextInt(10), ATOMS);
            if (random.nextInt(6) == 0) {
                row.set(random.nextInt(row.size()), random.nextBoolean() ? "_" : "+");
            }
            if (row.size() > 14) {
                continue;
            }
            oracle.parse(row.toArray(new String[0]));
            if (oracle.count(0, row.size()).compareTo(BigInteger.valueOf(3000)) < 0) {
                trees += compareAll("seed " + seed + " " + row, oracle, random);
            }
        }
        CHECK.holds("there were trees enough: " + trees, trees > 10000);
    }

    private static int compareAll(String name, Oracle oracle, Random random) {
        int n = oracle.words.length;
        List<Oracle.Tree> all = oracle.list(0, n);
        MixfixDesk desk = oracle.desk();
        CHECK.due(name + " parse()", Check.parse(desk, String.join(" ", oracle.words)), all.size());
        CHECK.due(name + " count(3)", desk.count(3), n);
        for (int i = 0; i < n; i++) {
            for (int j = 1; i + j <= n; j++) {
                List<Oracle.Tree> those = oracle.list(i, j);
                CHECK.due(name + " trees", desk.trees(i, j), those.size());
                int o = random.nextInt(oracle.ops.size() + 1) - 1;
                long with = those.stream().filter(t -> t.op() == o).count();
                CHECK.due(name + " with " + o, desk.with(i, j, o), with);
            }
        }
        CHECK.due(name + " take behind the last", desk.take(all.size()), -1);
        for (int k = 0; k < all.size(); k += 1 + all.size() / 40) {
            compareTree(name + " tree " + k, oracle, all.get(k), k);
        }
        return all.size();
    }

    private static void compareTree(String name, Oracle oracle, Oracle.Tree tree, int k) {
        MixfixDesk desk = oracle.desk();
        Check.parse(desk, String.join(" ", oracle.words));
        List<int[]> items = new ArrayList<>();
        oracle.flatten(tree, 0, items);
        CHECK.due(name + " take", desk.take(k), items.stream().filter(x -> x[0] >= 0).count());
        compareItems(name, desk, items);
        String written = oracle.written(tree);
        CHECK.due(name + " write", desk.write(), written.length());
        CHECK.due(name + " octets", Check.written(desk), written);
        CHECK.due(name + " number", Check.number(desk, written), k);
        compareItems(name + " after number", desk, items);
        CHECK.due(name + " trees after number", desk.trees(0, oracle.words.length),
                oracle.list(0, oracle.words.length).size());
    }

    private static void compareItems(String name, MixfixDesk desk, List<int[]> items) {
        for (int t = 0; t < items.size(); t++) {
            for (int what = 0; what < 4; what++) {
                CHECK.due(name + " item " + t + ", " + what, desk.item(t, what), items.get(t)[what]);
            }
        }
        CHECK.due(name + " item behind the last", desk.item(items.size(), 0), -1);
    }

    /** Rows with many trees, some with far more than are told. */
    private static void knownForMany() {
        String minuses = Check.repeat("- ", 39) + " x";
        many("- _ 0 2", "- - _ 0 0", "- - - _ 0 1", minuses);
        many("_ ! 0 2", "_ ! ! 0 0", "_ ! ! ! 0 1", "x " + Check.repeat("! ", 39));
        many("_ + _ 0 1", "_ + _ + _ 0 1", "_ + _ + _ + _ 1 0", Check.repeat("x + ", 19) + " x");
        many("_ + _ 1 2", "_ + _ + _ 0 2", "_ + _ + _ + _ + _ 1 2", Check.repeat("x + ", 19) + " x");
        many("if _ then _ 0 0", "if _ then _ else _ 0 0", "_ + _ 1 1", "_ + _ + _ 1 1",
                "if x then if " + Check.repeat("x + ", 12) + " x then x else x + x + x");
        many("[ _ ] 0 0", "_ [ _ ] 1 0", "[ _ ] _ 0 0", "_ [ _ ] _ 0 1", Check.repeat("x [ x ] ", 10));
        many("a 0 0", "a _ 0 0", "_ a 1 0", "a _ a 0 0", "_ a _ 1 1", Check.repeat("a ", 40));
    }

    /** The last text is the row; the others tell an operator each, and behind it its node and its way. */
    private static void many(String... told) {
        Oracle oracle = new Oracle();
        oracle.nodes = 2;
        oracle.arrow[0][1] = true;
        for (int k = 0; k < told.length - 1; k++) {
            String[] tokens = told[k].split(" ");
            int size = tokens.length - 2;
            oracle.ops.add(new Oracle.Op(Arrays.copyOf(tokens, size), Integer.parseInt(tokens[size]),
                    Integer.parseInt(tokens[size + 1])));
        }
        oracle.parse(told[told.length - 1].split(" "));
        String name = String.join(", ", told);
        Random random = new Random(7);
        compareCounts(name, oracle, random);
        roundTrips(name, oracle, random);
        for (int step = 0; step < 40; step++) {
            Oracle.Tree tree = oracle.pickTree(random, 0, oracle.words.length, -1, -1);
            String written = oracle.written(tree);
            CHECK.due("number of " + written, Check.number(oracle.desk(), written), capped(oracle.rank(tree, -1, -1)));
        }
    }

    private static void largeOnes() {
        for (int seed = 0; seed < 600; seed++) {
            Random random = new Random(1000000 + seed);
            Oracle oracle = Oracle.random(random, 10, 30, seed % 3 == 0 ? PARTS : TWO_PARTS);
            List<String> row = new ArrayList<>();
            Oracle.Tree tree = oracle.randomTree(random, row, 30 + random.nextInt(10), ATOMS);
            if (row.size() > 40) {
                continue;
            }
            oracle.parse(row.toArray(new String[0]));
            String name = "large seed " + seed;
            compareCounts(name, oracle, random);
            roundTrips(name, oracle, random);
            long due = oracle.allFits(tree) ? oracle.rank(tree, -1, -1).min(MANY).longValueExact() : -6;
            CHECK.due(name + " number", Check.number(oracle.desk(), oracle.written(tree)), due);
        }
    }

    private static void compareCounts(String name, Oracle oracle, Random random) {
        int n = oracle.words.length;
        MixfixDesk desk = oracle.desk();
        BigInteger all = oracle.count(0, n);
        CHECK.due(name + " parse()", Check.parse(desk, String.join(" ", oracle.words)), capped(all));
        for (int step = 0; step < 100; step++) {
            int i = random.nextInt(n);
            int j = 1 + random.nextInt(n - i);
            int o = random.nextInt(oracle.ops.size() + 1) - 1;
            CHECK.due(name + " trees", desk.trees(i, j), capped(oracle.count(i, j)));
            CHECK.due(name + " with", desk.with(i, j, o), capped(oracle.countWith(i, j, o)));
        }
    }

    private static long capped(BigInteger exact) {
        return exact.min(MANY).longValueExact();
    }

    private static void roundTrips(String name, Oracle oracle, Random random) {
        int all = (int) capped(oracle.count(0, oracle.words.length));
        for (int step = 0; all > 0 && step < 8; step++) {
            int k = step == 0 ? 0 : step == 1 ? all - 1 : random.nextInt(all);
            MixfixDesk desk = oracle.desk();
            Check.parse(desk, String.join(" ", oracle.words));
            CHECK.holds(name + " take " + k, desk.take(k) >= 0);
            desk.write();
            String written = Check.written(desk);
            String[] words = oracle.words;
            CHECK.due(name + " oracle's number of take " + k, oracle.number(written.split(" ")), k);
            oracle.parse(words);
            CHECK.due(name + " number of take " + k, Check.number(oracle.desk(), written), k);
        }
    }

    private static void tokensInAnyOrder() {
        for (int seed = 0; seed < 20000; seed++) {
            Random random = new Random(2000000 + seed);
            Oracle oracle = Oracle.random(random, 1, 6, PARTS);
            List<String> row = new ArrayList<>();
            Oracle.Tree tree = oracle.randomTree(random, row, 3 + random.nextInt(seed % 5 == 0 ? 60 : 10), ATOMS);
            oracle.parse(row.toArray(new String[0]));
            List<String> tokens = new ArrayList<>(List.of(oracle.written(tree).split(" ")));
            String[] any = {"(", ")", "x", "+", "-", "if", "_", "(x"};
            for (int change = random.nextInt(4); change > 0; change--) {
                int at = random.nextInt(tokens.size());
                if (random.nextBoolean() && tokens.size() > 1) {
                    tokens.remove(at);
                } else {
                    tokens.set(at, any[random.nextInt(any.length)]);
                }
            }
            String text = String.join(random.nextBoolean() ? " " : "  ", tokens);
            if (text.length() > 1490) {
                continue;
            }
            String name = "seed " + seed + " number of " + text;
            CHECK.due(name, Check.number(oracle.desk(), " " + text + "  "), oracle.number(tokens.toArray(new String[0])));
        }
    }
}
