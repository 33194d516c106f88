import java.math.BigInteger;
import java.util.ArrayList;
import java.util.Arrays;
import java.util.List;

/** The whole document once more: a plain desk that tells what each call owes, in the order in which its promise tells it. */
final class Model {
    private static final BigInteger MANY = BigInteger.valueOf(1000000000L);

    private final StringBuilder text = new StringBuilder();
    private Oracle oracle = new Oracle();
    private String[] parsed = null;
    private Oracle.Tree taken = null;
    private String written = "";

    int feed(long v, int n) {
        if (n < 0 || n > 8) {
            return -2;
        }
        if (n == 0) {
            text.setLength(0);
        }
        if (text.length() + n > 1500) {
            return -4;
        }
        for (int k = n; k > 0; k--) {
            text.append((char) (v >> 8 * (k - 1) & 255));
        }
        return text.length();
    }

    int node() {
        if (oracle.nodes == 16) {
            return -4;
        }
        oracle.nodes++;
        return oracle.nodes - 1;
    }

    int arrow(int a, int b) {
        if (!isNode(a) || !isNode(b)) {
            return -1;
        }
        if (oracle.arrow[a][b]) {
            return 0;
        }
        if (leads(b, a)) {
            return -3;
        }
        oracle.arrow[a][b] = true;
        forget();
        return 1;
    }

    int cut(int a, int b) {
        if (!isNode(a) || !isNode(b)) {
            return -1;
        }
        if (!oracle.arrow[a][b]) {
            return 0;
        }
        oracle.arrow[a][b] = false;
        forget();
        return 1;
    }

    int operator(int node, int way) {
        String[] row = words();
        if (!isNode(node)) {
            return -1;
        }
        if (way < 0 || way > 2) {
            return -2;
        }
        if (isWrong() || row.length < 1 || row.length > 9 || (" " + String.join(" ", row) + " ").contains(" _ _ ")
                || Arrays.stream(row).allMatch("_"::equals)) {
            return -5;
        }
        if (oracle.ops.stream().anyMatch(op -> Arrays.equals(op.elements(), row))) {
            return -6;
        }
        if (oracle.ops.size() == 30) {
            return -4;
        }
        oracle.ops.add(new Oracle.Op(row, node, way));
        forget();
        return oracle.ops.size() - 1;
    }

    int about(int operator, int what) {
        if (!isOperator(operator)) {
            return -1;
        }
        Oracle.Op op = oracle.ops.get(operator);
        int holes = (int) Arrays.stream(op.elements()).filter("_"::equals).count();
        int kind = op.closed() ? 0 : op.prefix() ? 1 : op.postfix() ? 2 : 3;
        int[] all = {op.node(), op.size(), holes, op.way(), kind};
        return what < 0 || what > 4 ? -2 : all[what];
    }

    int clear() {
        int operators = oracle.ops.size();
        oracle = new Oracle();
        forget();
        return operators;
    }

    int parse() {
        if (isWrong()) {
            return -5;
        }
        if (words().length > 40) {
            return -4;
        }
        if (words().length == 0) {
            return -2;
        }
        parsed = words();
        taken = null;
        oracle.parse(parsed);
        return trees(0, parsed.length);
    }

    int count(int what) {
        int arrows = 0;
        for (boolean[] row : oracle.arrow) {
            for (boolean there : row) {
                arrows += there ? 1 : 0;
            }
        }
        int[] all = {oracle.nodes, oracle.ops.size(), arrows, parsed == null ? 0 : parsed.length};
        return what < 0 || what > 3 ? -2 : all[what];
    }

    int trees(int i, int j) {
        if (parsed == null) {
            return -3;
        }
        return areWords(i, j) ? capped(oracle.count(i, j)) : -1;
    }

    int with(int i, int j, int operator) {
        if (parsed == null) {
            return -3;
        }
        boolean there = areWords(i, j) && (operator == -1 || isOperator(operator));
        return there ? capped(oracle.countWith(i, j, operator)) : -1;
    }

    int take(int k) {
        if (parsed == null) {
            return -3;
        }
        if (k < 0 || k >= trees(0, parsed.length)) {
            return -1;
        }
        taken = oracle.numbered(BigInteger.valueOf(k), 0, parsed.length, -1, -1);
        return (int) items().stream().filter(item -> item[0] >= 0).count();
    }

    int item(int i, int what) {
        if (taken == null) {
            return -3;
        }
        if (i < 0 || i >= items().size()) {
            return -1;
        }
        return what < 0 || what > 3 ? -2 : items().get(i)[what];
    }

    int write() {
        if (taken == null) {
            return -3;
        }
        written = oracle.written(taken);
        return written.length();
    }

    int octet(int i) {
        return i < 0 || i >= written.length() ? -1 : written.charAt(i);
    }

    int number() {
        if (oracle.isPart("(") || oracle.isPart(")")) {
            return -3;
        }
        if (isWrong()) {
            return -5;
        }
        Oracle other = new Oracle();
        other.nodes = oracle.nodes;
        other.ops.addAll(oracle.ops);
        for (int a = 0; a < 16; a++) {
            System.arraycopy(oracle.arrow[a], 0, other.arrow[a], 0, 16);
        }
        return (int) other.number(words());
    }

    // ---- what can be asked of it by a test that looks for calls worth making

    String written() {
        return written;
    }

    Oracle oracle() {
        return oracle;
    }

    private void forget() {
        parsed = null;
        taken = null;
    }

    private boolean isNode(int a) {
        return a >= 0 && a < oracle.nodes;
    }

    private boolean isOperator(int o) {
        return o >= 0 && o < oracle.ops.size();
    }

    private boolean areWords(int i, int j) {
        return i >= 0 && j >= 1 && (long) i + j <= parsed.length;
    }

    private boolean leads(int from, int to) {
        if (from == to) {
            return true;
        }
        for (int next = 0; next < 16; next++) {
            if (oracle.arrow[from][next] && leads(next, to)) {
                return true;
            }
        }
        return false;
    }

    private boolean isWrong() {
        return text.chars().anyMatch(octet -> octet < 32 || octet > 126)
                || Arrays.stream(words()).anyMatch(word -> word.length() > 8);
    }

    private String[] words() {
        return Arrays.stream(text.toString().split(" ")).filter(word -> !word.isEmpty()).toArray(String[]::new);
    }

    private List<int[]> items() {
        List<int[]> items = new ArrayList<>();
        oracle.flatten(taken, 0, items);
        return items;
    }

    private static int capped(BigInteger exact) {
        return exact.min(MANY).intValueExact();
    }
}
