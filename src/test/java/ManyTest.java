/** Rows that have 999999999, 1000000000 and 1000000001 trees: where MANY begins (promises 9, 11, 12, 13 and 17). */
public final class ManyTest {
    private static final Cases CASES = new Cases();
    private static final int MANY = 1000000000;

    /** Letters of prefix operators, and two rows of letters whose numbers of trees, multiplied, give the one sought. */
    private static final String[] BELOW = {"a b aa ba ab bb aaa baa aba aab bbb baaa abaa aaba baba abba aaab babb bbbb",
        "abbbaaabaaaaaa", "babaaaaabaaaabaabbbbb"};
    private static final String[] EXACT = {"a b aa ba ab aaa baa aba bab aaaa baaa abaa abba bbab", "ababaaabaaaaaaa",
        "aabababababaaaaaaaba"};
    private static final String[] ABOVE = {"a b aa ba ab bb aaa baa aba bba abb bbb aaaa aaab abab bbab aabb bbbb",
        "abbabbaaabbaaaaba", "abaaaabbbbbbaaaaaa"};
    private static final String[] HALF = {"a b aa ba bb aaa baa bbb aaaa bbaa abba", "baaabbabaaaaaaa",
        "bbbbbbaaaaaaaaaaaaaa"};

    public static void main(String[] args) {
        counting();
        summing();
        multiplying();
        taking();
        numbering();
        CASES.end();
    }

    private static void due(String call, long got, long want) {
        CASES.due(call, got, want);
    }

    private static String spaced(String letters) {
        return letters.replaceAll(".", "$0 ");
    }

    private static String row(String[] told) {
        return "{ " + spaced(told[1]) + "x ; " + spaced(told[2]) + "x }";
    }

    /** A desk with { _ ; _ } and the prefix operators, on which the row was parsed. */
    private static MixfixDesk parsed(String[] told) {
        MixfixDesk desk = Desks.nodes(2);
        Check.operator(desk, "{ _ ; _ }", 0, 0);
        for (String letters : told[0].split(" ")) {
            Check.operator(desk, spaced(letters) + "_", 1, 0);
        }
        Check.parse(desk, row(told));
        return desk;
    }

    /** The same row once more in a bracket with an infix inside: twice as many trees. */
    private static MixfixDesk parsedTwice(String[] told) {
        MixfixDesk desk = parsed(told);
        desk.arrow(0, 1);
        Check.operator(desk, "_ ; _", 0, 0);
        Check.operator(desk, "{ _ }", 0, 0);
        Check.parse(desk, row(told));
        return desk;
    }

    private static int words(String[] told) {
        return told[1].length() + told[2].length() + 5;
    }

    private static void counting() {
        CASES.of("HOW MANY TREES there are is told up to 1000000000", () -> {
            due("999999999: parse", parsed(BELOW).parse(), 999999999);
            due("999999999: trees", parsed(BELOW).trees(0, words(BELOW)), 999999999);
            due("999999999: with", parsed(BELOW).with(0, words(BELOW), 0), 999999999);
        });
        CASES.of("as many, or more, are MANY, and told so", () -> {
            due("1000000000: parse", parsed(EXACT).parse(), MANY);
            due("1000000000: trees", parsed(EXACT).trees(0, words(EXACT)), MANY);
            due("1000000000: with", parsed(EXACT).with(0, words(EXACT), 0), MANY);
            due("1000000001: parse", parsed(ABOVE).parse(), MANY);
            due("1000000001: trees", parsed(ABOVE).trees(0, words(ABOVE)), MANY);
            due("1000000001: with", parsed(ABOVE).with(0, words(ABOVE), 0), MANY);
        });
    }

    private static void summing() {
        CASES.of("what is reckoned out of such numbers likewise (each sum", () -> {
            MixfixDesk half = parsedTwice(HALF);
            int words = words(HALF);
            due("one half", half.with(0, words, 0), 500000000);
            due("the other", half.with(0, words, half.count(1) - 1), 500000000);
            due("both", half.trees(0, words), MANY);
            MixfixDesk all = parsedTwice(ABOVE);
            due("MANY", all.with(0, words(ABOVE), 0), MANY);
            due("and MANY", all.with(0, words(ABOVE), all.count(1) - 1), MANY);
            due("are MANY", all.trees(0, words(ABOVE)), MANY);
        });
    }

    /** Prefix operators of one to eight letters a, and more: rows of 31 letters have MANY trees. */
    private static MixfixDesk letters() {
        MixfixDesk desk = Desks.nodes(1);
        for (int letters = 1; letters <= 8; letters++) {
            Check.operator(desk, "a ".repeat(letters) + "_", 0, 0);
        }
        Check.operator(desk, "{ _ }", 0, 0);
        Check.operator(desk, "_ ; _", 0, 2);
        return desk;
    }

    private static void multiplying() {
        CASES.of("each product)", () -> {
            MixfixDesk desk = letters();
            Check.operator(desk, "[ _ | _ ]", 0, 0);
            due("512966536", Check.parse(desk, "a ".repeat(30) + "x"), 512966536);
            due("1023897200", Check.parse(desk, "a ".repeat(31) + "x"), MANY);
            due("32192 times 32192", Check.parse(desk, "[ " + "a ".repeat(16) + "x | " + "a ".repeat(16) + "x ]"), MANY);
            due("far above", Check.parse(desk, "[ " + "a ".repeat(17) + "x | " + "a ".repeat(18) + "x ]"), MANY);
            due("nothing times MANY", Check.parse(desk, "[ | " + "a ".repeat(31) + "x ]"), 0);
            due("nothing times MANY", Check.parse(desk, "[ ; | " + "a ".repeat(31) + "x ]"), 0);
            due("MANY times nothing", Check.parse(desk, "[ " + "a ".repeat(31) + "x | ; ]"), 0);
            due("MANY times one", Check.parse(desk, "[ " + "a ".repeat(31) + "x | x ]"), MANY);
            due("MANY in MANY", Check.parse(desk, "a ".repeat(39) + "x"), MANY);
        });
    }

    private static String taken(MixfixDesk desk, int k) {
        desk.take(k);
        desk.write();
        return Check.written(desk);
    }

    private static void taking() {
        CASES.of("13: (of MANY 0 .. 999999999)", () -> {
            MixfixDesk below = parsed(BELOW);
            due("999999998 of 999999999", Math.min(0, below.take(999999998)), 0);
            due("999999999 of 999999999", below.take(999999999), -1);
            due("1000000000 of 999999999", below.take(MANY), -1);
            for (String[] told : new String[][] {EXACT, ABOVE}) {
                MixfixDesk many = parsed(told);
                due("0 of MANY", Math.min(0, many.take(0)), 0);
                due("999999999 of MANY", Math.min(0, many.take(999999999)), 0);
                due("1000000000 of MANY", many.take(MANY), -1);
                due("1000000001 of MANY", many.take(MANY + 1), -1);
                due("the greatest of MANY", many.take(Integer.MAX_VALUE), -1);
                due("-1 of MANY", many.take(-1), -1);
            }
            MixfixDesk twice = parsedTwice(HALF);
            due("the last of the first half", topOf(twice, 499999999), 0);
            due("the first of the other half", topOf(twice, 500000000), twice.count(1) - 1);
            due("the last of the other half", topOf(twice, 999999999), twice.count(1) - 1);
        });
        CASES.of("(Where MANY are met, the first 1000000000 of what it is are meant.)", () -> {
            MixfixDesk below = parsed(BELOW);
            CASES.due("the first", taken(below, 0), bracketed(BELOW, false));
            CASES.due("the last of 999999999", taken(below, 999999998), bracketed(BELOW, true));
            CASES.due("the last of 1000000000", taken(parsed(EXACT), 999999999), bracketed(EXACT, true));
            CASES.due("the first of 1000000001", taken(parsed(ABOVE), 0), bracketed(ABOVE, false));
            MixfixDesk desk = letters();
            Check.operator(desk, "[ _ | _ ]", 0, 0);
            String many = "a ".repeat(31) + "x";
            Check.parse(desk, many);
            String last = taken(desk, 999999999);
            Check.parse(desk, "[ x | " + many + " ]");
            CASES.due("MANY in the last HOLE", taken(desk, 999999999), "( [ x | " + last + " ] )");
            Check.parse(desk, "[ " + many + " | x ]");
            CASES.due("MANY in the first HOLE", taken(desk, 999999999), "( [ " + last + " | x ] )");
            Check.parse(desk, "[ a a x | " + many + " ]");
            CASES.due("MANY behind two", taken(desk, 999999999), "( [ ( a ( a x ) ) | " + last + " ] )");
            due("its number", Check.number(desk, "( [ ( a ( a x ) ) | " + last + " ] )"), 999999999);
            due("the first that is not told", Check.number(desk, "( [ ( a a x ) | " + "( a ".repeat(31) + "x"
                    + " )".repeat(31) + " ] )"), MANY);
        });
    }

    private static int topOf(MixfixDesk desk, int k) {
        desk.take(k);
        return desk.item(0, 0);
    }

    /** The first or the last tree of a row, which needs no reckoning: at each place the first or last operator that is there. */
    private static String bracketed(String[] told, boolean last) {
        return "( { " + unfolded(told[0].split(" "), told[1], last) + " ; " + unfolded(told[0].split(" "), told[2], last)
                + " } )";
    }

    private static String unfolded(String[] operators, String letters, boolean last) {
        if (letters.isEmpty()) {
            return "x";
        }
        String found = "";
        for (String operator : operators) {
            if (letters.startsWith(operator) && (last || found.isEmpty())) {
                found = operator;
            }
        }
        return "( " + spaced(found) + unfolded(operators, letters.substring(found.length()), last) + " )";
    }

    private static void numbering() {
        CASES.of("17: which number it has among those of its WORDS; 1000000000 if that is not below it", () -> {
            due("the first", Check.number(parsed(ABOVE), bracketed(ABOVE, false)), 0);
            due("the last of 999999999", Check.number(parsed(BELOW), bracketed(BELOW, true)), 999999998);
            due("the last of 1000000000", Check.number(parsed(EXACT), bracketed(EXACT, true)), 999999999);
            due("the last of 1000000001", Check.number(parsed(ABOVE), bracketed(ABOVE, true)), MANY);
            MixfixDesk above = parsed(ABOVE);
            due("the last but one", Check.number(above, taken(above, 999999999)), 999999999);
            MixfixDesk desk = letters();
            due("far above", Check.number(desk, "( a a a a a a a a ".repeat(4) + "( a a a a a a a x )" + " )".repeat(4)),
                    MANY);
        });
    }
}
