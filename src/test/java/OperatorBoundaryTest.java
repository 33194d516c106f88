/** Promises 1 to 8: a case for each sentence that names a boundary. */
public final class OperatorBoundaryTest {
    private static final Cases CASES = new Cases();
    private static final String BLANKS = " ".repeat(1500);

    public static void main(String[] args) {
        newObject();
        feed();
        node();
        arrow();
        cut();
        operator();
        about();
        clear();
        CASES.end();
    }

    private static void due(String call, long got, long want) {
        CASES.due(call, got, want);
    }

    private static void newObject() {
        CASES.of("1: No text", () -> {
            due("parse()", new MixfixDesk().parse(), -2);
            due("number()", new MixfixDesk().number(), -5);
            due("feed of one", new MixfixDesk().feed('x', 1), 1);
            due("operator of no words", Desks.nodes(1).operator(0, 0), -5);
        });
        CASES.of("1: no NODES", () -> {
            due("count(0)", new MixfixDesk().count(0), 0);
            due("count(2)", new MixfixDesk().count(2), 0);
            due("node()", new MixfixDesk().node(), 0);
            due("arrow(0, 0)", new MixfixDesk().arrow(0, 0), -1);
            due("cut(0, 0)", new MixfixDesk().cut(0, 0), -1);
            due("operator(0, 0)", Check.operator(new MixfixDesk(), "x", 0, 0), -1);
        });
        CASES.of("1: no OPERATORS", () -> {
            due("count(1)", new MixfixDesk().count(1), 0);
            due("about(0, 0)", new MixfixDesk().about(0, 0), -1);
            due("clear()", new MixfixDesk().clear(), 0);
            due("the first one's number", Check.operator(Desks.nodes(1), "x", 0, 0), 0);
        });
        CASES.of("1: nothing parsed", () -> {
            due("count(3)", new MixfixDesk().count(3), 0);
            due("trees(0, 1)", new MixfixDesk().trees(0, 1), -3);
            due("with(0, 1, -1)", new MixfixDesk().with(0, 1, -1), -3);
            due("take(0)", new MixfixDesk().take(0), -3);
            due("item(0, 0)", new MixfixDesk().item(0, 0), -3);
            due("write()", new MixfixDesk().write(), -3);
            due("octet(0)", new MixfixDesk().octet(0), -1);
        });
    }

    /** What THE TEXT, an atom, is. */
    private static String atom(MixfixDesk desk) {
        desk.parse();
        desk.take(0);
        desk.write();
        return Check.written(desk);
    }

    /** A text of so many blanks. */
    private static MixfixDesk blanks(int count) {
        MixfixDesk desk = new MixfixDesk();
        Check.text(desk, BLANKS.substring(0, count));
        return desk;
    }

    private static void feed() {
        CASES.of("2: The n lowest bytes of v, the highest first, come behind THE TEXT", () -> {
            for (int n = 1; n <= 8; n++) {
                MixfixDesk desk = new MixfixDesk();
                due("n = " + n, desk.feed(0x4142434445464748L, n), n);
                CASES.due("n = " + n, atom(desk), "ABCDEFGH".substring(8 - n));
            }
            MixfixDesk desk = new MixfixDesk();
            desk.feed(0x7FFFFFFFFFFF4142L, 2);
            desk.feed(-1L << 8 | 'C', 1);
            desk.feed(Long.MIN_VALUE | 0x44454647L, 4);
            CASES.due("one behind the other", atom(desk), "ABCDEFG");
            MixfixDesk high = new MixfixDesk();
            due("the highest bit", high.feed(Long.MIN_VALUE, 8), 8);
            due("is a byte 128", high.parse(), -5);
        });
        CASES.of("2: how many it has", () -> {
            MixfixDesk desk = new MixfixDesk();
            int all = 0;
            for (int k = 0; k < 300; k++) {
                all += 1 + k % 8;
                due("feed " + k, desk.feed(-1L, 1 + k % 8), all <= 1500 ? all : -4);
            }
        });
        CASES.of("2: with n = 0 it is empty: 0", () -> {
            MixfixDesk desk = blanks(1500);
            due("when full", desk.feed(-1L, 0), 0);
            due("again", desk.feed(0L, 0), 0);
            due("nothing is in it", desk.parse(), -2);
            due("it begins anew", desk.feed('x', 1), 1);
            CASES.due("without the old", atom(desk), "x");
        });
        CASES.of("2: -2 n is not 0 .. 8", () -> {
            for (int n : new int[] {-1, 9, -8, 16, 1500, 256, 264}) {
                CASES.refusedText("x", -2, desk -> desk.feed(-1L, n));
            }
            for (int n : Desks.FAR) {
                CASES.refusedText("x", -2, desk -> desk.feed(-1L, n));
            }
            due("n = 0", new MixfixDesk().feed(0L, 0), 0);
            due("n = 8", new MixfixDesk().feed(0L, 8), 8);
            due("before -4", blanks(1500).feed(0L, 9), -2);
            due("before -4", blanks(1500).feed(0L, -1), -2);
        });
        CASES.of("2: -4", () -> {
            for (int n = 1; n <= 8; n++) {
                due("to 1500 with " + n, blanks(1500 - n).feed(0L, n), 1500);
                MixfixDesk desk = blanks(1501 - n);
                due("to 1501 with " + n, desk.feed(0L, n), -4);
                due("no byte of these came", desk.parse(), -2);
                due("nor counts", n == 1 ? 1500 : desk.feed(0L, n - 1), 1500);
            }
        });
    }

    private static void node() {
        CASES.of("3: A NODE: its number. (NODES are numbered from 0, 16 at most)", () -> {
            MixfixDesk desk = new MixfixDesk();
            for (int k = 0; k < 16; k++) {
                due("node " + k, desk.node(), k);
                due("how many", desk.count(0), k + 1);
            }
        });
        CASES.of("3: -4", () -> {
            MixfixDesk desk = Desks.nodes(16);
            due("the 17th", desk.node(), -4);
            due("still 16", desk.count(0), 16);
            due("again", desk.node(), -4);
            due("there is no 16", desk.arrow(0, 16), -1);
            due("15 is there", desk.arrow(0, 15), 1);
            desk.clear();
            due("room again", desk.node(), 0);
            MixfixDesk busy = Desks.busy();
            for (int k = 2; k < 16; k++) {
                due("a node more", busy.node(), k);
            }
            CASES.refusedBy("no room", -4, busy, MixfixDesk::node);
        });
    }

    /** Arrows from each node to all that have a greater number: as many as there may be. */
    private static MixfixDesk allArrows() {
        MixfixDesk desk = Desks.nodes(16);
        for (int a = 0; a < 16; a++) {
            for (int b = a + 1; b < 16; b++) {
                desk.arrow(a, b);
            }
        }
        return desk;
    }

    private static void arrow() {
        CASES.of("4: An ARROW a > b: 1 (what was parsed is gone then)", () -> {
            MixfixDesk desk = Desks.busy();
            desk.node();
            due("new", desk.arrow(1, 2), 1);
            gone(desk);
            due("how many", desk.count(2), 2);
            due("the most", allArrows().count(2), 120);
        });
        CASES.of("4: 0 if it was there", () -> {
            MixfixDesk desk = Desks.busy();
            String before = Desks.look(desk);
            due("there", desk.arrow(0, 1), 0);
            CASES.due("nothing is gone", Desks.look(desk), before);
            MixfixDesk all = allArrows();
            for (int a = 0; a < 16; a++) {
                for (int b = a + 1; b < 16; b++) {
                    due(a + " > " + b, all.arrow(a, b), 0);
                }
            }
            due("how many", all.count(2), 120);
        });
        CASES.of("4: -1 there is no such NODE", () -> {
            for (int a : new int[] {-1, 2, 16, 32, 33}) {
                CASES.refused("arrow(" + a + ", 1)", -1, desk -> desk.arrow(a, 1));
                CASES.refused("arrow(0, " + a + ")", -1, desk -> desk.arrow(0, a));
                CASES.refused("before -3", -1, desk -> desk.arrow(a, a));
            }
            for (int a : Desks.FAR) {
                CASES.refused("arrow(" + a + ", 1)", -1, desk -> desk.arrow(a, 1));
                CASES.refused("arrow(0, " + a + ")", -1, desk -> desk.arrow(0, a));
            }
            due("16 of 16", Desks.nodes(16).arrow(16, 0), -1);
            due("16 of 16", Desks.nodes(16).arrow(0, 16), -1);
        });
        CASES.of("4: -3 there would be a ring", () -> {
            CASES.refused("of two", -3, desk -> desk.arrow(1, 0));
            MixfixDesk all = allArrows();
            for (int a = 0; a < 16; a++) {
                for (int b = 0; b < a; b++) {
                    due(a + " > " + b, all.arrow(a, b), -3);
                }
            }
            due("how many", all.count(2), 120);
            for (int length = 3; length <= 16; length++) {
                ringOf(length);
            }
            MixfixDesk branches = Desks.nodes(4);
            due("left", branches.arrow(0, 1), 1);
            due("right", branches.arrow(0, 2), 1);
            due("from the right", branches.arrow(2, 3), 1);
            due("two ways to one are no ring", branches.arrow(1, 3), 1);
            due("nor a shorter way", branches.arrow(0, 3), 1);
            due("back is one", branches.arrow(3, 0), -3);
            branches.cut(2, 3);
            branches.cut(0, 3);
            due("one way is enough", branches.arrow(3, 0), -3);
            branches.cut(1, 3);
            due("no way is left", branches.arrow(3, 0), 1);
        });
        CASES.of("4: (also a > a)", () -> {
            CASES.refused("0 > 0", -3, desk -> desk.arrow(0, 0));
            MixfixDesk desk = Desks.nodes(16);
            for (int a = 0; a < 16; a++) {
                due("a > a", desk.arrow(a, a), -3);
                due("did not come", desk.cut(a, a), 0);
            }
        });
    }

    /** The arrows of a ring, in an order in which no walk over the numbers meets them all at once. */
    private static void ringOf(int length) {
        MixfixDesk down = Desks.nodes(length);
        MixfixDesk up = Desks.nodes(length);
        for (int k = 1; k < length; k++) {
            due("down", down.arrow(k, k - 1), 1);
            due("up", up.arrow(k - 1, k), 1);
        }
        due("a ring of " + length + " up", down.arrow(0, length - 1), -3);
        due("a ring of " + length + " down", up.arrow(length - 1, 0), -3);
        due("did not come", down.cut(0, length - 1), 0);
        due("did not come", up.cut(length - 1, 0), 0);
    }

    private static void gone(MixfixDesk desk) {
        due("no WORDS parsed", desk.count(3), 0);
        due("no trees", desk.trees(0, 1), -3);
        due("none with", desk.with(0, 1, -1), -3);
        due("none to take", desk.take(0), -3);
        due("nothing is taken up", desk.item(0, 0), -3);
        due("nothing to write", desk.write(), -3);
    }

    private static void cut() {
        CASES.of("5: An ARROW goes: 1 (what was parsed is gone then)", () -> {
            MixfixDesk desk = Desks.busy();
            due("goes", desk.cut(0, 1), 1);
            gone(desk);
            due("none is left", desk.count(2), 0);
            due("its trees are gone too", Check.parse(desk, "x + y * z"), 0);
            MixfixDesk all = allArrows();
            due("one of all", all.cut(7, 8), 1);
            due("the others stay", all.count(2), 119);
            due("one beside", all.arrow(7, 9), 0);
            due("one beside", all.arrow(6, 8), 0);
            due("it may be turned", all.arrow(8, 7), 1);
        });
        CASES.of("5: 0 if there was none", () -> {
            for (int[] none : new int[][] {{1, 0}, {0, 0}, {1, 1}}) {
                MixfixDesk desk = Desks.busy();
                String before = Desks.look(desk);
                due("cut(" + none[0] + ", " + none[1] + ")", desk.cut(none[0], none[1]), 0);
                CASES.due("nothing is gone", Desks.look(desk), before);
            }
            MixfixDesk desk = Desks.sums();
            desk.cut(0, 1);
            due("cut again", desk.cut(0, 1), 0);
            due("how many", desk.count(2), 0);
            MixfixDesk steps = Desks.nodes(3);
            steps.arrow(0, 1);
            steps.arrow(1, 2);
            due("two steps are no arrow", steps.cut(0, 2), 0);
        });
        CASES.of("5: -1 there is no such NODE", () -> {
            for (int a : new int[] {-1, 2, 16, 32, 33}) {
                CASES.refused("cut(" + a + ", 1)", -1, desk -> desk.cut(a, 1));
                CASES.refused("cut(0, " + a + ")", -1, desk -> desk.cut(0, a));
                CASES.refused("cut of both " + a, -1, desk -> desk.cut(a, a));
            }
            for (int a : Desks.FAR) {
                CASES.refused("cut(" + a + ", 1)", -1, desk -> desk.cut(a, 1));
                CASES.refused("cut(0, " + a + ")", -1, desk -> desk.cut(0, a));
            }
            due("16 of 16", Desks.nodes(16).cut(16, 0), -1);
            due("16 of 16", Desks.nodes(16).cut(0, 16), -1);
            due("15 of 16", Desks.nodes(16).cut(15, 15), 0);
        });
    }

    private static void operator() {
        operatorNumbers();
        operatorArguments();
        operatorRows();
        CASES.of("6: -6 there is an OPERATOR with the same ELEMENTS", () -> {
            for (String same : new String[] {"_ + _", "  _  +   _ ", "[ _ ]", "- _", "_ * _ "}) {
                for (int node = 0; node < 2; node++) {
                    for (int way = 0; way < 3; way++) {
                        int home = node;
                        int told = way;
                        CASES.refusedText(same, -6, desk -> desk.operator(home, told));
                    }
                }
            }
            for (String other : new String[] {"+ _", "_ +", "+", "_ + _ +", "_ ++ _", "_ , _", "[ _ ] _", "_ [ _ ]"}) {
                due("not the same: " + other, Check.operator(Desks.sums(), other, 0, 0), 4);
            }
            MixfixDesk desk = Desks.thirty();
            desk.clear();
            desk.node();
            due("none is there after clear", Check.operator(desk, "op0 _", 0, 0), 0);
        });
        CASES.of("6: -4 there are 30", () -> {
            MixfixDesk desk = Desks.thirty();
            due("thirty", desk.count(1), 30);
            Check.parse(desk, "op29 x");
            CASES.refusedTextBy("more _", -4, desk, full -> full.operator(0, 0));
            due("no 31st", desk.about(30, 0), -1);
            due("-5 first", Check.operator(desk, "_", 0, 0), -5);
            due("-6 first", Check.operator(desk, "op29 _", 0, 0), -6);
            due("-2 first", Check.operator(desk, "more _", 0, 3), -2);
            due("-1 first", Check.operator(desk, "more _", 1, 0), -1);
            desk.clear();
            desk.node();
            due("room again", Check.operator(desk, "more _", 0, 0), 0);
        });
        CASES.of("6: What was parsed is gone.", () -> {
            MixfixDesk desk = Desks.busy();
            Check.text(desk, "other");
            due("an operator", desk.operator(0, 0), 4);
            gone(desk);
            due("THE TEXT stays", desk.feed(' ', 1), 6);
        });
    }

    private static void operatorNumbers() {
        CASES.of("6: THE TEXT's WORDS are the ELEMENTS of an OPERATOR of a NODE: its number", () -> {
            MixfixDesk desk = Desks.nodes(1);
            for (int k = 0; k < 30; k++) {
                due("number " + k, Check.operator(desk, "op" + k + " _", 0, 0), k);
                due("how many", desk.count(1), k + 1);
            }
            due("THE TEXT stays", desk.operator(0, 0), -6);
            due("of the last node", Check.operator(Desks.nodes(16), "x", 15, 0), 0);
        });
    }

    private static void operatorArguments() {
        CASES.of("6: -1 there is no such NODE", () -> {
            for (int node : new int[] {-1, 2, 3, 15, 16}) {
                CASES.refusedText("new", -1, desk -> desk.operator(node, 0));
                CASES.refusedText("new", -1, desk -> desk.operator(node, 3));
                CASES.refusedText("_", -1, desk -> desk.operator(node, 0));
                CASES.refusedText("_ + _", -1, desk -> desk.operator(node, 0));
            }
            for (int node : Desks.FAR) {
                CASES.refusedText("new", -1, desk -> desk.operator(node, 0));
            }
            due("node 1 of 2", Check.operator(Desks.sums(), "new", 1, 0), 4);
            due("node 16 of 16", Check.operator(Desks.nodes(16), "new", 16, 0), -1);
        });
        CASES.of("6: -2 the way is not 0 .. 2", () -> {
            for (int way : new int[] {-1, 3, 4, 256}) {
                CASES.refusedText("new", -2, desk -> desk.operator(0, way));
                CASES.refusedText("_", -2, desk -> desk.operator(0, way));
                CASES.refusedText("_ + _", -2, desk -> desk.operator(0, way));
            }
            for (int way : Desks.FAR) {
                CASES.refusedText("new", -2, desk -> desk.operator(0, way));
            }
            for (int way = 0; way <= 2; way++) {
                due("way " + way, Check.operator(Desks.sums(), "new", 0, way), 4);
            }
        });
    }

    private static void operatorRows() {
        CASES.of("6: -5 THE TEXT is WRONG", () -> {
            for (int octet = 0; octet < 256; octet++) {
                String text = "a " + (char) octet + " b";
                boolean wrong = octet < 32 || octet > 126;
                due("byte " + octet, Check.operator(Desks.nodes(1), text, 0, 0), wrong ? -5 : 0);
            }
            for (String text : new String[] {"abcdefghi", "a abcdefghi", "abcdefghi _", "_ abcdefghi _", "a\t_", "\u0000"}) {
                CASES.refusedText(text, -5, desk -> desk.operator(0, 0));
            }
            due("eight bytes", Check.operator(Desks.nodes(1), "abcdefgh _ ~~~~~~~~", 0, 0), 0);
        });
        CASES.of("6: -5 or its WORDS are no such row (1 to 9 ELEMENTS)", () -> {
            due("none", Check.operator(Desks.nodes(1), "", 0, 0), -5);
            due("blanks", Check.operator(Desks.nodes(1), BLANKS, 0, 0), -5);
            for (int parts = 1; parts <= 20; parts++) {
                due("parts " + parts, Check.operator(Desks.nodes(1), "a ".repeat(parts), 0, 0), parts <= 9 ? 0 : -5);
            }
            due("750", Check.operator(Desks.nodes(1), "a ".repeat(750), 0, 0), -5);
            due("nine with five holes", Check.operator(Desks.nodes(1), "_ a _ b _ c _ d _", 0, 0), 0);
            due("nine with four holes", Check.operator(Desks.nodes(1), "a _ b _ c _ d _ e", 0, 0), 0);
            due("ten with five holes", Check.operator(Desks.nodes(1), "a _ b _ c _ d _ e _", 0, 0), -5);
            CASES.refusedText("", -5, desk -> desk.operator(0, 0));
            CASES.refusedText("a b c d e f g h i j", -5, desk -> desk.operator(0, 0));
        });
        CASES.of("6: -5 or its WORDS are no such row (no two HOLES side by side)", () -> {
            for (String text : new String[] {"_ _ a", "a _ _", "a _ _ b", "_ a _ _ b", "_ a _ _", "_ _ a _",
                "a b c d e f g _ _", "_  _ a", "a _ _ _ b"}) {
                CASES.refusedText(text, -5, desk -> desk.operator(0, 0));
            }
            due("holes apart", Check.operator(Desks.nodes(1), "_ a _", 0, 0), 0);
            due("the word __ is a part", Check.operator(Desks.nodes(1), "_ __ _", 0, 0), 0);
        });
        CASES.of("6: -5 or its WORDS are no such row (one PART at least)", () -> {
            CASES.refusedText("_", -5, desk -> desk.operator(0, 0));
            CASES.refusedText("  _  ", -5, desk -> desk.operator(0, 0));
            CASES.refusedText("_ _", -5, desk -> desk.operator(0, 0));
            due("one part", Check.operator(Desks.nodes(1), "a", 0, 0), 0);
            due("the part __", Check.operator(Desks.nodes(1), "__", 0, 0), 0);
        });
    }

    private static void about() {
        String[] rows = {"a", "a b c d e f g h i", "_ a _ b _ c _ d _", "_ a", "a _", "_ a _", "a _ b", "_ a _ b",
            "a _ b _"};
        int[][] about = {{1, 0, 0}, {9, 0, 0}, {9, 5, 3}, {2, 1, 2}, {2, 1, 1}, {3, 2, 3}, {3, 1, 0}, {4, 2, 2},
            {4, 2, 1}};
        CASES.of("7: what = 0 its NODE, 1 how many ELEMENTS, 2 HOLES, 3 its way, 4 0 CLOSED, 1 PREFIX, 2 POSTFIX, "
                + "3 INFIX", () -> {
            MixfixDesk desk = Desks.nodes(16);
            for (int o = 0; o < rows.length; o++) {
                Check.operator(desk, rows[o], 15 - o, o % 3);
            }
            for (int o = 0; o < rows.length; o++) {
                due("node of " + rows[o], desk.about(o, 0), 15 - o);
                due("elements of " + rows[o], desk.about(o, 1), about[o][0]);
                due("holes of " + rows[o], desk.about(o, 2), about[o][1]);
                due("way of " + rows[o], desk.about(o, 3), o % 3);
                due("kind of " + rows[o], desk.about(o, 4), about[o][2]);
            }
            due("the 30th", Desks.thirty().about(29, 1), 2);
        });
        CASES.of("7: -1 there is none", () -> {
            for (int o : new int[] {-1, 4, 5, 29, 30, 31}) {
                CASES.refused("about(" + o + ", 0)", -1, desk -> desk.about(o, 0));
                CASES.refused("before -2", -1, desk -> desk.about(o, 5));
            }
            for (int o : Desks.FAR) {
                CASES.refused("about(" + o + ", 0)", -1, desk -> desk.about(o, 0));
            }
            due("30 of 30", Desks.thirty().about(30, 0), -1);
            MixfixDesk desk = Desks.sums();
            desk.clear();
            due("after clear", desk.about(0, 0), -1);
        });
        CASES.of("7: -2 no such what", () -> {
            for (int what : new int[] {-1, 5, 6, 256}) {
                CASES.refused("about(0, " + what + ")", -2, desk -> desk.about(0, what));
            }
            for (int what : Desks.FAR) {
                CASES.refused("about(3, " + what + ")", -2, desk -> desk.about(3, what));
            }
        });
    }

    private static void clear() {
        CASES.of("8: No OPERATORS", () -> {
            MixfixDesk desk = Desks.busy();
            desk.clear();
            due("count(1)", desk.count(1), 0);
            due("about(0, 0)", desk.about(0, 0), -1);
            due("a part is an atom now", Check.parse(desk, "+"), 1);
            desk.node();
            due("numbers begin anew", Check.operator(desk, "_ + _", 0, 0), 0);
        });
        CASES.of("8: no NODES", () -> {
            MixfixDesk desk = allArrows();
            due("of none", desk.clear(), 0);
            due("count(0)", desk.count(0), 0);
            due("count(2)", desk.count(2), 0);
            due("arrow(0, 1)", desk.arrow(0, 1), -1);
            due("numbers begin anew", desk.node(), 0);
            due("numbers begin anew", desk.node(), 1);
            due("the arrows are gone", desk.cut(0, 1), 0);
            due("the other way is no ring", desk.arrow(1, 0), 1);
        });
        CASES.of("8: how many OPERATORS there were", () -> {
            due("none", new MixfixDesk().clear(), 0);
            due("four", Desks.sums().clear(), 4);
            MixfixDesk desk = Desks.thirty();
            due("thirty", desk.clear(), 30);
            due("none are left", desk.clear(), 0);
        });
        CASES.of("8: What was parsed is gone.", () -> {
            MixfixDesk desk = Desks.busy();
            desk.clear();
            gone(desk);
            due("THE TEXT stays", desk.parse(), 0);
            due("it is parsed anew", desk.count(3), 5);
            MixfixDesk empty = new MixfixDesk();
            Check.parse(empty, "x");
            empty.take(0);
            due("with nothing to clear", empty.clear(), 0);
            gone(empty);
        });
    }
}
