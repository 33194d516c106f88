/** The document's terms: a case for each sentence that names a boundary. */
public final class TermsTest {
    private static final Cases CASES = new Cases();
    private static final int[] OTHER_BYTES = {0, 1, 9, 10, 13, 31, 127, 128, 160, 223, 255};
    private static final String[] KINDS = {"CLOSED", "PREFIX", "POSTFIX", "NEITHER INFIX", "LEFT INFIX", "RIGHT INFIX"};
    private static final String[] OUTER = {"a _ a", "a _", "_ a", "_ a _", "_ a _", "_ a _"};
    private static final String[] INNER = {"b _ b", "b _", "_ b", "_ b _", "_ b _", "_ b _"};

    public static void main(String[] args) {
        calls();
        words();
        nodes();
        operators();
        atoms();
        holes();
        outerHoles();
        order();
        writing();
        answers();
        CASES.end();
    }

    private static void due(String call, long got, long want) {
        CASES.due(call, got, want);
    }

    private static void calls() {
        CASES.of("An object is used for at most 512 calls after it has been made", () -> {
            MixfixDesk desk = Desks.minuses();
            Check.text(desk, "- ".repeat(39) + "x");
            int made = 7 + 11;
            while (made < 510) {
                due("parse as call " + (made + 1), desk.parse(), 102334155);
                due("take as call " + (made + 2), desk.take(102334154), 20);
                due("write as call " + (made + 3), desk.write(), 79 + 20 * 4);
                made += 3;
            }
            due("call " + (made + 1), desk.octet(0), '(');
            due("call " + (made + 2), desk.count(3), 40);
        });
    }

    private static void words() {
        CASES.of("WORDS are what stands between blanks (32) in it, 1 to 8 bytes 33 .. 126 each", () -> {
            for (int octet = 0; octet < 256; octet++) {
                int want = octet == 32 ? -2 : octet == '_' ? 0 : octet > 32 && octet < 127 ? 1 : -5;
                due("byte " + octet, Check.parse(new MixfixDesk(), "" + (char) octet), want);
            }
            for (int size = 1; size <= 8; size++) {
                due("bytes: " + size, Check.parse(new MixfixDesk(), "~".repeat(size)), 1);
            }
            for (int gap = 1; gap < 10; gap++) {
                MixfixDesk desk = new MixfixDesk();
                Check.parse(desk, " ".repeat(gap - 1) + "ab" + " ".repeat(gap) + "c" + " ".repeat(gap - 1));
                due("blanks: " + gap, desk.count(3), 2);
            }
        });
        CASES.of("THE TEXT is WRONG if another byte is in it", () -> {
            for (int octet : OTHER_BYTES) {
                char other = (char) octet;
                for (String text : new String[] {other + "x", "x" + other, "x " + other + " y", "x" + other + "y", other + " x",
                    "x " + other}) {
                    due("parse with " + octet, Check.parse(new MixfixDesk(), text), -5);
                    due("operator with " + octet, Check.operator(Desks.nodes(1), text, 0, 0), -5);
                    due("number with " + octet, Check.number(new MixfixDesk(), text), -5);
                }
            }
        });
        CASES.of("or a WORD has more than 8", () -> {
            for (int size = 9; size <= 20; size++) {
                String word = "a".repeat(size);
                for (String text : new String[] {word, "x " + word, word + " x", "x " + word + " x"}) {
                    due("parse of " + size, Check.parse(new MixfixDesk(), text), -5);
                    due("operator of " + size, Check.operator(Desks.nodes(1), text, 0, 0), -5);
                    due("number of " + size, Check.number(new MixfixDesk(), text), -5);
                }
            }
            due("parse of 8", Check.parse(new MixfixDesk(), "aaaaaaaa aaaaaaaa"), 0);
            due("operator of 8", Check.operator(Desks.nodes(1), "aaaaaaaa aaaaaaaa", 0, 0), 0);
            due("number of 8", Check.number(new MixfixDesk(), "aaaaaaaa"), 0);
            due("words of 8 that differ at the end", differing("aaaaaaab"), 1);
            due("words of 8 that differ at the beginning", differing("baaaaaaa"), 1);
            due("one shorter", differing("aaaaaaa"), 1);
        });
    }

    /** How many trees a word has when aaaaaaaa is a part. */
    private static int differing(String word) {
        MixfixDesk desk = Desks.nodes(1);
        Check.operator(desk, "aaaaaaaa _", 0, 0);
        return Check.parse(desk, "aaaaaaaa " + word);
    }

    private static void nodes() {
        CASES.of("NODES are numbered from 0, 16 at most", () -> {
            due("the first", new MixfixDesk().node(), 0);
            due("the 16th", Desks.nodes(15).node(), 15);
            due("the 17th", Desks.nodes(16).node(), -4);
        });
        CASES.of("there is no ring of ARROWS", () -> {
            MixfixDesk desk = Desks.nodes(3);
            due("of one", desk.arrow(2, 2), -3);
            due("0 > 1", desk.arrow(0, 1), 1);
            due("of two", desk.arrow(1, 0), -3);
            due("1 > 2", desk.arrow(1, 2), 1);
            due("of three", desk.arrow(2, 0), -3);
        });
        CASES.of("An ARROW a > b tells that NODE b is tighter than a (that, and nothing of others that follow)", () -> {
            MixfixDesk desk = Desks.nodes(3);
            desk.arrow(0, 1);
            desk.arrow(1, 2);
            Check.operator(desk, "_ o _", 0, 0);
            Check.operator(desk, "_ p _", 1, 0);
            Check.operator(desk, "_ q _", 2, 0);
            due("last, one step", Check.parse(desk, "x o x p x"), 1);
            due("last, one step", Check.parse(desk, "x p x q x"), 1);
            due("last, two steps", Check.parse(desk, "x o x q x"), 0);
            due("first, one step", Check.parse(desk, "x p x o x"), 1);
            due("first, two steps", Check.parse(desk, "x q x o x"), 0);
            due("as a number", Check.number(desk, "( x o ( x q x ) )"), -6);
            desk.arrow(0, 2);
            due("when it is told", Check.parse(desk, "x o x q x"), 1);
            due("when it is told", Check.number(desk, "( x o ( x q x ) )"), 0);
        });
    }

    private static void operators() {
        CASES.of("AN OPERATOR is a row of 1 to 9 ELEMENTS", () -> {
            int[] sizes = {0, 1, 2, 8, 9, 10, 11, 40, 41};
            int[] answers = {-5, 0, 0, 0, 0, -5, -5, -5, -5};
            for (int k = 0; k < sizes.length; k++) {
                due("PARTS: " + sizes[k], Check.operator(Desks.nodes(1), "a ".repeat(sizes[k]), 0, 0), answers[k]);
            }
        });
        CASES.of("HOLES (the WORD _ ), no two HOLES side by side, one PART at least", () -> {
            String[] rows = {"_", "_ _", "_ _ a", "a _ _", "a _ _ a", "_ a", "a _", "_ a _", "a _ a", "__", "_a", "a_ _"};
            int[] answers = {-5, -5, -5, -5, -5, 0, 0, 0, 0, 0, 0, 0};
            int[] holes = {-1, -1, -1, -1, -1, 1, 1, 2, 1, 0, 0, 1};
            for (int k = 0; k < rows.length; k++) {
                MixfixDesk desk = Desks.nodes(1);
                due(rows[k], Check.operator(desk, rows[k], 0, 0), answers[k]);
                due("HOLES of " + rows[k], desk.about(0, 2), holes[k]);
            }
        });
        CASES.of("It is CLOSED if it has a HOLE neither first nor last, PREFIX if last alone, POSTFIX if first alone, INFIX "
                + "if both.", () -> {
            String[] rows = {"a", "a _ b", "a b", "a _", "a _ b _", "a b _", "_ a", "_ a _ b", "_ a b", "_ a _", "_ a _ b _"};
            int[] kinds = {0, 0, 0, 1, 1, 1, 2, 2, 2, 3, 3};
            for (int k = 0; k < rows.length; k++) {
                for (int way = 0; way < 3; way++) {
                    MixfixDesk desk = Desks.nodes(1);
                    Check.operator(desk, rows[k], 0, way);
                    due(rows[k], desk.about(0, 4), kinds[k]);
                }
            }
        });
        CASES.of("They are numbered from 0, 30 at most.", () -> {
            due("the first", Check.operator(Desks.nodes(1), "a", 0, 0), 0);
            MixfixDesk desk = Desks.thirty();
            due("30 are there", desk.count(1), 30);
            due("the 31st", Check.operator(desk, "a", 0, 0), -4);
            due("the last is 29", desk.about(29, 0), 0);
        });
        CASES.of("(LEFT and RIGHT count for INFIX alone.)", () -> {
            for (int way = 0; way < 3; way++) {
                for (int other = 0; other < 3; other++) {
                    MixfixDesk desk = Desks.nodes(1);
                    Check.operator(desk, "a _", 0, way);
                    Check.operator(desk, "b _", 0, other);
                    Check.operator(desk, "_ c", 0, way);
                    Check.operator(desk, "_ d", 0, other);
                    due("PREFIX in PREFIX", Check.parse(desk, "a b x"), 1);
                    due("POSTFIX in POSTFIX", Check.parse(desk, "x c d"), 1);
                    due("POSTFIX and PREFIX", Check.parse(desk, "a x d"), 0);
                }
            }
        });
    }

    private static void atoms() {
        CASES.of("AN ATOM is a WORD that is no PART of any OPERATOR, and not _", () -> {
            due("without OPERATORS", Check.parse(new MixfixDesk(), "x"), 1);
            due("not _", Check.parse(new MixfixDesk(), "_"), 0);
            due("__ is one", Check.parse(new MixfixDesk(), "__"), 1);
            due("( is one", Check.parse(new MixfixDesk(), "("), 1);
            MixfixDesk desk = Desks.nodes(1);
            Check.operator(desk, "first _ inner _ last", 0, 0);
            for (String part : new String[] {"first", "inner", "last"}) {
                due("not the PART " + part, Check.parse(desk, part), 0);
                due("nor in a HOLE", Check.parse(desk, "first " + part + " inner x last"), 0);
            }
            due("another", Check.parse(desk, "first firs inner las last"), 1);
            Check.operator(desk, "alone", 0, 0);
            Check.parse(desk, "alone");
            due("an OPERATOR of one PART is none", desk.with(0, 1, -1), 0);
            due("it is a TREE", desk.with(0, 1, 1), 1);
            MixfixDesk most = Desks.thirty();
            due("not the PART of the 30th", Check.parse(most, "op29"), 0);
            due("op30 is one", Check.parse(most, "op30"), 1);
            most.clear();
            due("after clear", Check.parse(most, "op29"), 1);
        });
    }

    private static void holes() {
        CASES.of("A TREE of a row of WORDS is: of one WORD that is an ATOM, itself", () -> {
            due("one", Check.parse(new MixfixDesk(), "x"), 1);
            due("two are none", Check.parse(new MixfixDesk(), "x x"), 0);
            due("forty are none", Check.parse(new MixfixDesk(), "x ".repeat(40)), 0);
        });
        CASES.of("or an OPERATOR, the WORDS being its ELEMENTS in order: a PART itself", () -> {
            MixfixDesk desk = Desks.nodes(1);
            Check.operator(desk, "a b c d e f g h i", 0, 0);
            Check.operator(desk, "if _ then _", 0, 0);
            due("nine PARTS", Check.parse(desk, "a b c d e f g h i"), 1);
            due("eight of them", Check.parse(desk, "a b c d e f g h"), 0);
            due("one more", Check.parse(desk, "a b c d e f g h i i"), 0);
            due("in another order", Check.parse(desk, "a b c d e f g i h"), 0);
            due("with HOLES", Check.parse(desk, "if x then y"), 1);
            due("in another order", Check.parse(desk, "then x if y"), 0);
            due("the first PART is missing", Check.parse(desk, "x then y"), 0);
            due("the last HOLE is missing", Check.parse(desk, "if x then"), 0);
        });
        CASES.of("a HOLE one WORD at least", () -> {
            for (String row : new String[] {"+", "x +", "+ x", "-", "[ ]", "x + [ ]", "- [ ]", "x * - "}) {
                due(row, Check.parse(Desks.sums(), row), 0);
            }
            due("one", Check.parse(Desks.sums(), "[ x ]"), 1);
        });
        CASES.of("An INNER HOLE takes all TREES.", () -> {
            MixfixDesk desk = Desks.nodes(3);
            desk.arrow(1, 0);
            String[] rows = {"c _ c", "p _", "_ q", "_ l _", "_ r _", "_ n _"};
            int[] ways = {0, 0, 0, 1, 2, 0};
            String[] trees = {"( c x c )", "( p x )", "( x q )", "( x l x )", "( x r x )", "( x n x )"};
            for (int node = 0; node < 3; node++) {
                for (int k = 0; k < rows.length; k++) {
                    Check.operator(desk, rows[k].replaceAll("[a-z]", "$0" + node), node, ways[k]);
                }
            }
            Check.operator(desk, "[ _ , _ ]", 0, 0);
            Check.operator(desk, "_ [ _ ]", 0, 0);
            Check.operator(desk, "[ _ ] _", 0, 0);
            for (int node = 0; node < 3; node++) {
                for (String tree : trees) {
                    String inner = tree.replaceAll("[c-r]", "$0" + node);
                    due("first of " + inner, Check.number(desk, "( [ " + inner + " , x ] )"), 0);
                    due("second of " + inner, Check.number(desk, "( [ x , " + inner + " ] )"), 0);
                    due("of a POSTFIX " + inner, Check.number(desk, "( x [ " + inner + " ] )"), 0);
                    due("of a PREFIX " + inner, Check.number(desk, "( [ " + inner + " ] x )"), 0);
                }
            }
            MixfixDesk minuses = Desks.minuses();
            Check.operator(minuses, "[ _ ]", 0, 0);
            Check.operator(minuses, "_ [ _ ]", 0, 0);
            inOrder(minuses, "[ - - x ]", "( [ ( - ( - x ) ) ] )", "( [ ( - - x ) ] )");
            inOrder(minuses, "y [ - - x ]", "( y [ ( - ( - x ) ) ] )", "( y [ ( - - x ) ] )");
        });
    }

    private static void outerHoles() {
        CASES.of("An OUTER HOLE of an OPERATOR o of a NODE p takes: ATOMS", () -> {
            for (int outer = 1; outer < 6; outer++) {
                MixfixDesk desk = Desks.nodes(1);
                Check.operator(desk, OUTER[outer], 0, Math.max(0, outer - 3));
                due(KINDS[outer], Check.parse(desk, OUTER[outer].replace("_", "x")), 1);
            }
        });
        CASES.of("those with a CLOSED OPERATOR", () -> eachOuter((outer, first, relation) -> {
            takes(outer, first, 0, relation, true);
        }));
        CASES.of("those with an OPERATOR of a NODE q, p > q", () -> eachOuter((outer, first, relation) -> {
            for (int inner = 1; inner < 6; inner++) {
                if (relation > 0) {
                    takes(outer, first, inner, relation, relation == 1);
                }
            }
        }));
        CASES.of("and of NODE p itself: first, if o is LEFT INFIX or POSTFIX: those with an OPERATOR that is LEFT INFIX or "
                + "POSTFIX", () -> eachOuter((outer, first, relation) -> {
            for (int inner = 1; inner < 6; inner++) {
                if (relation == 0 && first) {
                    takes(outer, true, inner, 0, (outer == 4 || outer == 2) && (inner == 4 || inner == 2));
                }
            }
        }));
        CASES.of("last, if o is RIGHT INFIX or PREFIX: those with one that is RIGHT INFIX or PREFIX", () -> eachOuter(
                (outer, first, relation) -> {
            for (int inner = 1; inner < 6; inner++) {
                if (relation == 0 && !first) {
                    takes(outer, false, inner, 0, (outer == 5 || outer == 1) && (inner == 5 || inner == 1));
                }
            }
        }));
    }

    private interface Outer {
        void look(int kind, boolean first, int relation);
    }

    /** Each outer hole of each kind, with nodes in each relation: 0 the same, 1 p > q, 2 q > p, 3 none, 4 p > r > q. */
    private static void eachOuter(Outer outer) {
        for (int kind = 1; kind < 6; kind++) {
            for (int relation = 0; relation < 5; relation++) {
                if (kind != 1) {
                    outer.look(kind, true, relation);
                }
                if (kind != 2) {
                    outer.look(kind, false, relation);
                }
            }
        }
    }

    private static void takes(int outer, boolean first, int inner, int relation, boolean due) {
        MixfixDesk desk = Desks.nodes(3);
        if (relation == 1 || relation == 2) {
            desk.arrow(relation - 1, 2 - relation);
        }
        if (relation == 4) {
            desk.arrow(0, 2);
            desk.arrow(2, 1);
        }
        Check.operator(desk, OUTER[outer], 0, Math.max(0, outer - 3));
        Check.operator(desk, INNER[inner], relation == 0 ? 0 : 1, Math.max(0, inner - 3));
        String in = "( " + INNER[inner].replace("_", "y") + " )";
        String row = OUTER[outer];
        String tree = "( " + (first ? in + row.substring(1).replace("_", "x")
                : row.substring(0, row.length() - 1).replace("_", "x") + in) + " )";
        String name = KINDS[outer] + (first ? " first " : " last ") + KINDS[inner] + " relation " + relation;
        due(name + " number", Check.number(desk, tree), due ? 0 : -6);
        String plain = tree.replaceAll("[()]", " ");
        Check.parse(desk, plain);
        due(name + " parse", desk.with(0, desk.count(3), 0), due ? 1 : 0);
    }

    private static void order() {
        CASES.of("THEIR ORDER, from 0 on: ATOMS, then by OPERATORS", () -> {
            MixfixDesk desk = Desks.nodes(1);
            Check.operator(desk, "a a _", 0, 0);
            Check.operator(desk, "a _", 0, 0);
            Check.operator(desk, "a a x", 0, 0);
            inOrder(desk, "a a y", "( a a y )", "( a ( a y ) )");
            inOrder(desk, "a a a y", "( a a ( a y ) )", "( a ( a a y ) )", "( a ( a ( a y ) ) )");
            inOrder(desk, "a a x", "( a a x )");
            inOrder(desk, "y", "y");
        });
        CASES.of("of one: by the first HOLE in which they differ: by how many WORDS it has, fewer first", () -> {
            MixfixDesk desk = Desks.nodes(2);
            desk.arrow(0, 1);
            Check.operator(desk, "_ o _", 0, 0);
            Check.operator(desk, "_ o", 1, 0);
            Check.operator(desk, "o _", 1, 0);
            inOrder(desk, "x o o o x", "( x o ( o ( o x ) ) )", "( ( x o ) o ( o x ) )", "( ( ( x o ) o ) o x )");
        });
        CASES.of("then by the ORDER of the TREES that it takes there (of a HOLE: those that FIT, in this ORDER)", () -> {
            MixfixDesk desk = Desks.nodes(2);
            Check.operator(desk, "_ ; _", 0, 0);
            Check.operator(desk, "b b _", 0, 0);
            Check.operator(desk, "a a _", 1, 0);
            Check.operator(desk, "a _", 1, 0);
            Check.operator(desk, "b _", 1, 0);
            inOrder(desk, "a a x", "( a a x )", "( a ( a x ) )");
            inOrder(desk, "b b x", "( b b x )", "( b ( b x ) )");
            desk.arrow(0, 1);
            inOrder(desk, "a a x ; b b x", "( ( a a x ) ; ( b ( b x ) ) )", "( ( a ( a x ) ) ; ( b ( b x ) ) )");
            inOrder(desk, "b b x ; a a x", "( ( b ( b x ) ) ; ( a a x ) )", "( ( b ( b x ) ) ; ( a ( a x ) ) )");
        });
    }

    /** The trees of a row, all of them, in their order, taken up and numbered. */
    private static void inOrder(MixfixDesk desk, String row, String... trees) {
        due("trees of " + row, Check.parse(desk, row), trees.length);
        for (int k = 0; k < trees.length; k++) {
            desk.take(k);
            desk.write();
            CASES.due("tree " + k + " of " + row, Check.written(desk), trees[k]);
            due("number of " + trees[k], Check.number(desk, trees[k]), k);
        }
    }

    private static void writing() {
        CASES.of("WRITTEN is a TREE: an ATOM; an OPERATOR: ( and its ELEMENTS, TREES in HOLES, blanks between all (also "
                + "behind ( and before ) ), and )", () -> {
            MixfixDesk desk = Desks.sums();
            Check.operator(desk, "end", 0, 0);
            inOrder(desk, "x", "x");
            inOrder(desk, "end", "( end )");
            inOrder(desk, "[ end ]", "( [ ( end ) ] )");
            inOrder(desk, "x * [ end ] + - y", "( ( x * ( [ ( end ) ] ) ) + ( - y ) )");
        });
    }

    private static void answers() {
        CASES.of("ANSWERS below 0 are refusals and change nothing", () -> {
            CASES.refused("feed", -2, desk -> desk.feed(0L, 9));
            CASES.refused("arrow to none", -1, desk -> desk.arrow(0, 2));
            CASES.refused("arrow in a ring", -3, desk -> desk.arrow(1, 0));
            CASES.refused("cut", -1, desk -> desk.cut(2, 0));
            CASES.refusedText("new", -1, desk -> desk.operator(2, 0));
            CASES.refusedText("new", -2, desk -> desk.operator(0, 3));
            CASES.refusedText("_", -5, desk -> desk.operator(0, 0));
            CASES.refusedText("_ + _", -6, desk -> desk.operator(0, 0));
            CASES.refusedText("\t", -5, MixfixDesk::parse);
            CASES.refusedText("x ".repeat(41), -4, MixfixDesk::parse);
            CASES.refusedText("", -2, MixfixDesk::parse);
            CASES.refused("take", -1, desk -> desk.take(1));
            CASES.refusedText("x y", -5, MixfixDesk::number);
            CASES.refusedText("( - ".repeat(40) + "x" + " )".repeat(40), -4, MixfixDesk::number);
            CASES.refusedText("( x + ( x + x ) )", -6, MixfixDesk::number);
        });
        CASES.of("of several that which the call names first", () -> {
            MixfixDesk full = Desks.thirty();
            due("operator: -1, not -2, -5, -4", Check.operator(full, "_", 1, 3), -1);
            due("operator: -2, not -5, -4", Check.operator(full, "_", 0, 3), -2);
            due("operator: -2, not -6, -4", Check.operator(full, "op0 _", 0, 3), -2);
            due("operator: -5, not -4", Check.operator(full, "\t", 0, 0), -5);
            due("operator: -6, not -4", Check.operator(full, "op0 _", 0, 0), -6);
            due("arrow: -1, not -3", full.arrow(1, 1), -1);
            due("about: -1, not -2", full.about(30, 5), -1);
            due("parse: -5, not -4", Check.parse(full, "x ".repeat(41) + "\t"), -5);
            due("trees: -3, not -1", full.trees(-1, 0), -3);
            due("with: -3, not -1", full.with(-1, 0, 30), -3);
            due("take: -3, not -1", full.take(-1), -3);
            due("item: -3, not -1, -2", full.item(-1, 4), -3);
            MixfixDesk busy = Desks.busy();
            due("item: -1, not -2", busy.item(5, 4), -1);
            due("number: -5, not -4", Check.number(busy, "( - ".repeat(41) + "x"), -5);
            due("number: -5, not -6", Check.number(busy, "( x + ( x + x ) ) )"), -5);
            due("number: -4, not -6", Check.number(busy, "( x + ".repeat(20) + "x" + " )".repeat(20)), -4);
            Check.operator(busy, "( _ )", 0, 0);
            due("number: -3, not -5", Check.number(busy, "\t"), -3);
        });
    }
}
