import java.nio.charset.StandardCharsets;
import java.util.ArrayList;
import java.util.List;
import java.util.Random;

/** Runs of at most 512 random calls, each answer against the one of Model (promises 1 to 17, and what stays or goes). */
public final class ModelTest {
    private static final int RUNS = 1200;
    private static final int MOST_CALLS = 512;
    private static final int MET_MANY = 7;
    private static final String[] PARTS = {"+", "-", "if"};
    private static final String[] ATOMS = {"x", "yy"};
    private static final String[] WORDS = {"_", "+", "-", "if", "x", "_", "+", "(", ")", "abcdefgh", "_", "-"};
    private static final String[] SHAPES = {"_ + _", "_ - _", "- _", "_ !", "- - _", "if _ then _", "[ _ ]", "_ [ _ ]",
        "_ + _ + _", "if _ then _ else _", "+", "end"};
    private static final String[] MINUSES = {"- _", "- - _", "- - - _", "- - - - _", "_ - _"};
    private static final String[] SPOILERS = {"\t", "abcdefghi", "\u0080", " \u007f", "_ _", "( x"};

    private final Check check;
    private final Random random;
    private final MixfixDesk desk = new MixfixDesk();
    private final Model model = new Model();
    private final StringBuilder latest = new StringBuilder();
    private final int[] answered;
    private int calls = 0;
    private int wrong = 0;

    private ModelTest(int seed, Check shared, int[] counts) {
        check = shared;
        random = new Random(seed);
        answered = counts;
        latest.append("seed ").append(seed);
    }

    public static void main(String[] args) {
        Check check = new Check();
        int[] answered = new int[MET_MANY + 1];
        for (int seed = 0; seed < RUNS; seed++) {
            new ModelTest(seed, check, answered).run();
        }
        for (int refusal = 1; refusal < MET_MANY; refusal++) {
            check.holds("-" + refusal + " was met often: " + answered[refusal], answered[refusal] > 100);
        }
        check.holds("MANY was met often: " + answered[MET_MANY], answered[MET_MANY] > 100);
        check.end();
    }

    private void run() {
        int nodes = random.nextInt(8) == 0 ? 0 : 1 + random.nextInt(random.nextInt(6) == 0 ? 17 : 4);
        for (int k = 0; k < nodes; k++) {
            same("node()", desk.node(), model.node());
        }
        for (int k = random.nextInt(8); k > 0; k--) {
            arrow();
        }
        for (int k = random.nextInt(random.nextInt(10) == 0 ? 40 : 9); k > 0; k--) {
            operator();
        }
        for (int k = random.nextInt(4) == 0 ? MINUSES.length - 1 : -1; k >= 0; k--) {
            text(MINUSES[k]);
            same("operator(0, 0)", desk.operator(0, 0), model.operator(0, 0));
        }
        while (calls < MOST_CALLS && wrong == 0) {
            act();
        }
    }

    private void same(String call, int got, int want) {
        calls++;
        if (calls > MOST_CALLS || wrong > 0) {
            return;
        }
        latest.append("; ").append(call).append(' ').append(got);
        answered[want == 1000000000 ? MET_MANY : Math.max(0, -want)]++;
        if (got != want) {
            wrong++;
            check.due(latest.toString(), got, want);
        }
    }

    private void act() {
        switch (random.nextInt(40)) {
            case 0:
                same("node()", desk.node(), model.node());
                break;
            case 1:
                arrow();
                break;
            case 2:
                int a = near(model.oracle().nodes);
                int b = near(model.oracle().nodes);
                same("cut(" + a + ", " + b + ")", desk.cut(a, b), model.cut(a, b));
                break;
            case 3:
                operator();
                break;
            case 4:
                if (random.nextInt(8) == 0) {
                    same("clear()", desk.clear(), model.clear());
                }
                break;
            case 5:
                rawFeed();
                break;
            case 6:
                same("parse()", desk.parse(), model.parse());
                break;
            case 7:
            case 8:
            case 9:
                text(row());
                same("parse()", desk.parse(), model.parse());
                break;
            case 10:
            case 11:
            case 12:
                text(writtenTree());
                same("number()", desk.number(), model.number());
                break;
            case 13:
            case 14:
                same("write()", desk.write(), model.write());
                break;
            default:
                look();
                break;
        }
    }

    private void look() {
        int words = model.count(3);
        int i = near(words);
        int j = near(words);
        int o = near(model.oracle().ops.size());
        int what = random.nextInt(20) == 0 ? random.nextInt() : random.nextInt(7) - 1;
        switch (random.nextInt(9)) {
            case 0:
                same("about(" + o + ", " + what + ")", desk.about(o, what), model.about(o, what));
                break;
            case 1:
                same("count(" + what + ")", desk.count(what), model.count(what));
                break;
            case 2:
                same("trees(" + i + ", " + j + ")", desk.trees(i, j), model.trees(i, j));
                break;
            case 3:
                same("with(" + i + ", " + j + ", " + o + ")", desk.with(i, j, o), model.with(i, j, o));
                break;
            case 4:
            case 5:
                int k = near(Math.max(0, model.trees(0, words)));
                same("take(" + k + ")", desk.take(k), model.take(k));
                break;
            case 6:
            case 7:
                same("item(" + i + ", " + what + ")", desk.item(i, what), model.item(i, what));
                break;
            default:
                int at = near(model.written().length());
                same("octet(" + at + ")", desk.octet(at), model.octet(at));
                break;
        }
    }

    /** Mostly 0 .. count - 1, now and then at or behind its edges, seldom far away. */
    private int near(int count) {
        switch (random.nextInt(12)) {
            case 0:
                return -1;
            case 1:
                return count;
            case 2:
                return Math.max(0, count - 1);
            case 3:
                return random.nextBoolean() ? random.nextInt() : count + 1;
            default:
                return random.nextInt(Math.max(1, count));
        }
    }

    private void arrow() {
        int a = near(model.oracle().nodes);
        int b = near(model.oracle().nodes);
        same("arrow(" + a + ", " + b + ")", desk.arrow(a, b), model.arrow(a, b));
    }

    private void operator() {
        text(random.nextBoolean() ? SHAPES[random.nextInt(SHAPES.length)] : randomWords(1 + random.nextInt(5)));
        int node = near(model.oracle().nodes);
        int way = random.nextInt(12) == 0 ? near(3) : random.nextInt(3);
        same("operator(" + node + ", " + way + ")", desk.operator(node, way), model.operator(node, way));
    }

    private void rawFeed() {
        long v = random.nextLong();
        int n = random.nextInt(4) == 0 ? random.nextInt() : random.nextInt(11) - 1;
        same("feed(" + v + ", " + n + ")", desk.feed(v, n), model.feed(v, n));
    }

    private void text(String told) {
        same("feed(0, 0)", desk.feed(0L, 0), model.feed(0L, 0));
        byte[] bytes = told.getBytes(StandardCharsets.ISO_8859_1);
        for (int from = 0; from < bytes.length; from += 8) {
            int n = Math.min(8, bytes.length - from);
            long v = 0L;
            for (int k = 0; k < n; k++) {
                v = v << 8 | bytes[from + k] & 255;
            }
            same("feed(" + v + ", " + n + ")", desk.feed(v, n), model.feed(v, n));
        }
    }

    private String randomWords(int count) {
        List<String> row = new ArrayList<>();
        for (int k = 0; k < count; k++) {
            String[] from = random.nextInt(20) == 0 ? SPOILERS : random.nextInt(6) > 0 ? WORDS : PARTS;
            row.add(from[random.nextInt(from == WORDS && random.nextInt(8) > 0 ? 7 : from.length)]);
        }
        return String.join(random.nextInt(5) == 0 ? "  " : " ", row);
    }

    /** Words to parse: mostly those of some tree, so that there is one. */
    private String row() {
        if (random.nextInt(6) == 0) {
            return "- ".repeat(random.nextInt(3) == 0 ? random.nextInt(41) : 33 + random.nextInt(7)) + "x";
        }
        if (model.oracle().ops.isEmpty() || random.nextInt(10) == 0) {
            return randomWords(random.nextInt(random.nextInt(8) == 0 ? 45 : 4));
        }
        List<String> row = new ArrayList<>();
        model.oracle().randomTree(random, row, 2 + random.nextInt(random.nextInt(3) == 0 ? 42 : 14), ATOMS);
        return String.join(" ", row);
    }

    /** A written tree: the one that was written latest, or another, and now and then with a fault. */
    private String writtenTree() {
        String told = model.written();
        if (told.isEmpty() || random.nextBoolean() && !model.oracle().ops.isEmpty()) {
            told = anyTree();
        }
        if (random.nextInt(3) > 0) {
            return told;
        }
        String[] tokens = told.split(" ");
        int at = random.nextInt(tokens.length);
        tokens[at] = random.nextInt(4) == 0 ? "" : WORDS[random.nextInt(WORDS.length)];
        return String.join(" ", tokens);
    }

    private String anyTree() {
        if (model.oracle().ops.isEmpty()) {
            return randomWords(1);
        }
        Oracle other = new Oracle();
        other.ops.addAll(model.oracle().ops);
        for (int a = 0; a < 16; a++) {
            System.arraycopy(model.oracle().arrow[a], 0, other.arrow[a], 0, 16);
        }
        List<String> row = new ArrayList<>();
        Oracle.Tree tree = other.randomTree(random, row, 2 + random.nextInt(random.nextInt(4) == 0 ? 44 : 12), ATOMS);
        other.parse(row.toArray(new String[0]));
        return other.written(tree);
    }
}
