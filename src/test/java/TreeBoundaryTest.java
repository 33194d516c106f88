/** Promises 9 to 16: a case for each sentence that names a boundary. */
public final class TreeBoundaryTest {
    private static final Cases CASES = new Cases();
    private static final String FORTY_ONE = "- ".repeat(40) + "x";

    public static void main(String[] args) {
        parse();
        count();
        trees();
        with();
        take();
        item();
        write();
        octet();
        CASES.end();
    }

    private static void due(String call, long got, long want) {
        CASES.due(call, got, want);
    }

    private static void parse() {
        CASES.of("9: THE TEXT's WORDS are parsed: how many TREES they have", () -> {
            due("none", Check.parse(Desks.sums(), "x y"), 0);
            due("none of a part", Check.parse(Desks.sums(), "+"), 0);
            due("none of _", Check.parse(Desks.sums(), "_"), 0);
            due("none of _ in a hole", Check.parse(Desks.sums(), "x + _"), 0);
            due("one of an atom", Check.parse(new MixfixDesk(), "x"), 1);
            due("one", Check.parse(Desks.sums(), "x"), 1);
            due("two", Check.parse(Desks.minuses(), "- - x"), 2);
            MixfixDesk desk = Desks.minuses();
            due("four words", Check.parse(desk, "- - - x"), 3);
            due("THE TEXT stays", desk.parse(), 3);
            due("then one", Check.parse(desk, "x"), 1);
            due("then forty", Check.parse(desk, "- ".repeat(39) + "x"), 102334155);
            due("then one again", Check.parse(desk, "- x"), 1);
        });
        CASES.of("9: (1000000000: MANY)", () -> {
            MixfixDesk desk = Desks.minuses();
            Check.operator(desk, "- - - _", 0, 0);
            due("fewer", Check.parse(desk, "- ".repeat(34) + "x"), 615693474);
            for (int words = 36; words <= 40; words++) {
                due("MANY", Check.parse(desk, "- ".repeat(words - 1) + "x"), 1000000000);
            }
        });
        CASES.of("9: -5 THE TEXT is WRONG", () -> {
            for (String text : new String[] {"abcdefghi", "x + abcdefghi", "abcdefghi + x", "x +\ty", "\u0000", "x \u007f",
                "\u0080 x", "x \u00ff y", "x\n", "\u001f"}) {
                CASES.refusedText(text, -5, MixfixDesk::parse);
            }
            due("before -4", Check.parse(Desks.sums(), FORTY_ONE + "\t"), -5);
            due("before -4", Check.parse(Desks.sums(), "\t" + FORTY_ONE), -5);
            due("before -4", Check.parse(Desks.sums(), "- ".repeat(60) + "abcdefghi"), -5);
            due("its last byte of 1500", Check.parse(Desks.sums(), "x" + " ".repeat(1498) + "\t"), -5);
            due("the last word of 1500 bytes", Check.parse(Desks.sums(), " ".repeat(1491) + "abcdefghi"), -5);
            due("eight bytes", Check.parse(Desks.sums(), "abcdefgh + ABCDEFGH"), 1);
            due("a word of 1500", Check.parse(Desks.sums(), "x".repeat(1500)), -5);
        });
        CASES.of("9: -4 there are more than 40 WORDS", () -> {
            CASES.refusedText(FORTY_ONE, -4, MixfixDesk::parse);
            CASES.refusedText("x ".repeat(750), -4, MixfixDesk::parse);
            CASES.refusedText("_ ".repeat(41), -4, MixfixDesk::parse);
            MixfixDesk desk = Desks.sums();
            due("forty", Check.parse(desk, "- ".repeat(39) + "x"), 1);
            due("forty words", desk.count(3), 40);
            due("forty of eight bytes", Check.parse(Desks.sums(), "abcdefgh ".repeat(40)), 0);
            due("forty-one of eight bytes", Check.parse(Desks.sums(), "abcdefgh ".repeat(41)), -4);
            due("forty far apart", Check.parse(Desks.sums(), ("-" + " ".repeat(35)).repeat(39) + "x"), 1);
        });
        CASES.of("9: -2 there are none", () -> {
            CASES.refusedText("", -2, MixfixDesk::parse);
            CASES.refusedText(" ", -2, MixfixDesk::parse);
            CASES.refusedText(" ".repeat(1500), -2, MixfixDesk::parse);
            due("one", Check.parse(Desks.sums(), " ".repeat(1499) + "x"), 1);
            due("one", Check.parse(Desks.sums(), "x" + " ".repeat(1499)), 1);
        });
        CASES.of("9: (What was taken up is gone.)", () -> {
            for (String text : new String[] {"x + y * z", "x y", "x", "_"}) {
                MixfixDesk desk = Desks.busy();
                Check.parse(desk, text);
                due("item", desk.item(0, 0), -3);
                due("write", desk.write(), -3);
                due("what was WRITTEN stays", desk.octet(0), '(');
            }
        });
    }

    private static void count() {
        CASES.of("10: What = 0 NODES, 1 OPERATORS, 2 ARROWS", () -> {
            for (int what = 0; what < 3; what++) {
                due("of a new object", new MixfixDesk().count(what), 0);
            }
            MixfixDesk desk = Desks.busy();
            due("NODES", desk.count(0), 2);
            due("OPERATORS", desk.count(1), 4);
            due("ARROWS", desk.count(2), 1);
            due("the most NODES", Desks.nodes(16).count(0), 16);
            due("the most OPERATORS", Desks.thirty().count(1), 30);
        });
        CASES.of("10: 3 WORDS of what was parsed", () -> {
            due("five", Desks.busy().count(3), 5);
            MixfixDesk desk = Desks.minuses();
            for (int words = 1; words <= 40; words++) {
                Check.parse(desk, "- ".repeat(words - 1) + "x");
                due("words", desk.count(3), words);
            }
            MixfixDesk none = Desks.busy();
            Check.parse(none, "x y");
            due("also without a tree", none.count(3), 2);
            Check.text(none, "x y z");
            due("not of THE TEXT", none.count(3), 2);
        });
        CASES.of("10: (0 when nothing is)", () -> {
            due("of a new object", new MixfixDesk().count(3), 0);
            MixfixDesk desk = new MixfixDesk();
            Check.parse(desk, "\t");
            due("when it was refused", desk.count(3), 0);
            MixfixDesk busy = Desks.busy();
            busy.cut(0, 1);
            due("when it is gone", busy.count(3), 0);
        });
        CASES.of("10: -2 no such what", () -> {
            for (int what : new int[] {-1, 4, 5, 256}) {
                CASES.refused("count(" + what + ")", -2, desk -> desk.count(what));
            }
            for (int what : Desks.FAR) {
                CASES.refused("count(" + what + ")", -2, desk -> desk.count(what));
            }
        });
    }

    private static void trees() {
        CASES.of("11: How many TREES the WORDS from i on, j of them, of what was parsed have", () -> {
            MixfixDesk desk = Desks.minuses();
            Check.parse(desk, "- - - - - x");
            int[] ends = {8, 5, 3, 2, 1, 1};
            for (int i = 0; i < 6; i++) {
                due("to the end from " + i, desk.trees(i, 6 - i), ends[i]);
                for (int j = 1; i + j < 6; j++) {
                    due("parts alone", desk.trees(i, j), 0);
                }
            }
            Check.text(desk, "x");
            due("not of THE TEXT", desk.trees(0, 6), 8);
        });
        CASES.of("11: -3 nothing was parsed", () -> {
            due("in a new object", new MixfixDesk().trees(0, 1), -3);
            due("before -1", new MixfixDesk().trees(0, 0), -3);
            due("before -1", new MixfixDesk().trees(-1, 50), -3);
            MixfixDesk refused = new MixfixDesk();
            Check.parse(refused, FORTY_ONE);
            due("it was refused", refused.trees(0, 1), -3);
            MixfixDesk gone = Desks.busy();
            gone.clear();
            due("it is gone", gone.trees(0, 1), -3);
        });
        CASES.of("11: -1 there are no such WORDS (j is 1 at least)", () -> {
            MixfixDesk desk = Desks.busy();
            for (int i = -3; i <= 8; i++) {
                for (int j = -3; j <= 8; j++) {
                    boolean there = i >= 0 && j >= 1 && i + j <= 5;
                    due("trees(" + i + ", " + j + ")", Math.min(0, desk.trees(i, j)), there ? 0 : -1);
                }
            }
            for (int far : Desks.FAR) {
                for (int near = 0; near < 5; near++) {
                    due("trees(" + far + ", " + near + ")", desk.trees(far, near), -1);
                    due("trees(" + near + ", " + far + ")", desk.trees(near, far), -1);
                }
            }
            for (int far : Desks.FAR) {
                for (int other : Desks.FAR) {
                    due("trees(" + far + ", " + other + ")", desk.trees(far, other), -1);
                }
            }
            MixfixDesk most = Desks.minuses();
            Check.parse(most, "- ".repeat(39) + "x");
            due("word 39", most.trees(39, 1), 1);
            due("word 40", most.trees(40, 1), -1);
            due("41 words", most.trees(0, 41), -1);
            CASES.refused("trees(0, 0)", -1, busy -> busy.trees(0, 0));
        });
    }

    private static void with() {
        CASES.of("12: Of these those with an OPERATOR (-1: ATOMS)", () -> {
            MixfixDesk desk = Desks.minuses();
            Check.parse(desk, "- - - - - x");
            due("with 0", desk.with(0, 6, 0), 5);
            due("with 1", desk.with(0, 6, 1), 3);
            due("with 1, the fewest words", desk.with(3, 3, 1), 1);
            due("with 1, too few", desk.with(4, 2, 1), 0);
            due("ATOMS, one word", desk.with(5, 1, -1), 1);
            due("ATOMS, a part", desk.with(4, 1, -1), 0);
            due("ATOMS, two words", desk.with(4, 2, -1), 0);
            Check.parse(desk, "x y - z");
            due("ATOMS, one of two words", desk.with(0, 1, -1), 1);
            due("ATOMS, two of them side by side", desk.with(0, 2, -1), 0);
            due("ATOMS, all words", desk.with(0, 4, -1), 0);
            MixfixDesk most = Desks.thirty();
            Check.parse(most, "op29 op0 _");
            due("_ is none", most.with(2, 1, -1), 0);
            Check.parse(most, "op29 op0 x");
            due("the 30th", most.with(0, 3, 29), 1);
            due("the 29th", most.with(0, 3, 28), 0);
        });
        CASES.of("12: -3", () -> {
            due("in a new object", new MixfixDesk().with(0, 1, -1), -3);
            due("before no such WORDS", Desks.sums().with(0, 0, 0), -3);
            due("before no such OPERATOR", Desks.sums().with(0, 1, 9), -3);
            MixfixDesk gone = Desks.busy();
            gone.cut(0, 1);
            due("it is gone", gone.with(0, 1, -1), -3);
        });
        CASES.of("12: -1 there are no such WORDS", () -> {
            MixfixDesk desk = Desks.busy();
            for (int i = -3; i <= 8; i++) {
                for (int j = -3; j <= 8; j++) {
                    boolean there = i >= 0 && j >= 1 && i + j <= 5;
                    due("with(" + i + ", " + j + ", 0)", Math.min(0, desk.with(i, j, 0)), there ? 0 : -1);
                    due("with(" + i + ", " + j + ", -1)", Math.min(0, desk.with(i, j, -1)), there ? 0 : -1);
                }
            }
            for (int far : Desks.FAR) {
                due("with(" + far + ", 1, 0)", desk.with(far, 1, 0), -1);
                due("with(1, " + far + ", 0)", desk.with(1, far, 0), -1);
                due("with(" + far + ", " + far + ", -1)", desk.with(far, far, -1), -1);
            }
            CASES.refused("with(0, 6, 0)", -1, busy -> busy.with(0, 6, 0));
        });
        CASES.of("12: -1 .. or OPERATOR", () -> {
            for (int o : new int[] {-2, 4, 5, 29, 30, 31}) {
                CASES.refused("with(0, 1, " + o + ")", -1, desk -> desk.with(0, 1, o));
                CASES.refused("with(0, 5, " + o + ")", -1, desk -> desk.with(0, 5, o));
            }
            for (int o : Desks.FAR) {
                CASES.refused("with(0, 5, " + o + ")", -1, desk -> desk.with(0, 5, o));
            }
            MixfixDesk most = Desks.thirty();
            Check.parse(most, "op0 x");
            due("30 of 30", most.with(0, 2, 30), -1);
        });
    }

    private static void take() {
        CASES.of("13: TREE k of all WORDS that were parsed is taken up", () -> {
            MixfixDesk desk = Desks.minuses();
            Check.parse(desk, "- - - x");
            String[] due = {"( - ( - ( - x ) ) )", "( - ( - - x ) )", "( - - ( - x ) )"};
            for (int k = 2; k >= 0; k--) {
                desk.take(k);
                desk.write();
                CASES.due("tree " + k, Check.written(desk), due[k]);
            }
            Check.text(desk, "x");
            desk.take(2);
            desk.write();
            CASES.due("not of THE TEXT", Check.written(desk), due[2]);
        });
        CASES.of("13: how many OPERATORS it has (each as often as it stands)", () -> {
            MixfixDesk desk = Desks.minuses();
            Check.parse(desk, "x");
            due("none", desk.take(0), 0);
            Check.parse(desk, "- ".repeat(39) + "x");
            due("39 times one", desk.take(0), 39);
            due("most of two", desk.take(102334154), 20);
            Check.operator(desk, "end", 0, 0);
            Check.parse(desk, "- ".repeat(39) + "end");
            due("as many as WORDS", desk.take(0), 40);
        });
        CASES.of("13: -3", () -> {
            due("in a new object", new MixfixDesk().take(0), -3);
            due("before -1", new MixfixDesk().take(-1), -3);
            due("before -1", new MixfixDesk().take(1000000000), -3);
            MixfixDesk gone = Desks.busy();
            gone.clear();
            due("it is gone", gone.take(0), -3);
        });
        CASES.of("13: -1 there is no such TREE", () -> {
            CASES.refused("take(1) of one", -1, desk -> desk.take(1));
            CASES.refused("take(-1)", -1, desk -> desk.take(-1));
            CASES.refused("take(999999999) of one", -1, desk -> desk.take(999999999));
            CASES.refused("take(1000000000) of one", -1, desk -> desk.take(1000000000));
            for (int k : Desks.FAR) {
                CASES.refused("take(" + k + ")", -1, desk -> desk.take(k));
            }
            MixfixDesk none = Desks.sums();
            Check.parse(none, "x y");
            due("take(0) of none", none.take(0), -1);
            due("nothing is taken up", none.item(0, 0), -3);
            MixfixDesk three = Desks.minuses();
            Check.parse(three, "- - - x");
            due("take(3) of three", three.take(3), -1);
            due("take(2) of three", three.take(2), 2);
        });
    }

    private static void item() {
        CASES.of("14: its ATOMS and OPERATORS being numbered from outside to inside, from the left (an OPERATOR, then all in "
                + "its first HOLE, and so on)", () -> {
            MixfixDesk desk = Desks.sums();
            Check.parse(desk, "[ x * y ] + - z");
            desk.take(0);
            int[][] due = {{0, 0, 8, 0}, {3, 0, 5, 1}, {1, 1, 3, 2}, {-1, 1, 1, 3}, {-1, 3, 1, 3}, {2, 6, 2, 1},
                {-1, 7, 1, 2}};
            for (int i = 0; i < due.length; i++) {
                for (int what = 0; what < 4; what++) {
                    due("item(" + i + ", " + what + ")", desk.item(i, what), due[i][what]);
                }
            }
        });
        CASES.of("14: what = 0 the OPERATOR (-1 an ATOM), 1 its first WORD, 2 how many WORDS, 3 in how many "
                + "OPERATORS it is", () -> {
            MixfixDesk atom = Desks.sums();
            Check.parse(atom, "x");
            atom.take(0);
            int[] due = {-1, 0, 1, 0};
            for (int what = 0; what < 4; what++) {
                due("of an ATOM alone, " + what, atom.item(0, what), due[what]);
            }
            MixfixDesk deep = Desks.minuses();
            Check.operator(deep, "end", 0, 0);
            Check.parse(deep, "- ".repeat(39) + "end");
            deep.take(0);
            for (int i = 0; i < 40; i++) {
                due("operator of " + i, deep.item(i, 0), i == 39 ? 2 : 0);
                due("first word of " + i, deep.item(i, 1), i);
                due("words of " + i, deep.item(i, 2), 40 - i);
                due("in how many is " + i, deep.item(i, 3), i);
            }
            due("no item 40", deep.item(40, 0), -1);
        });
        CASES.of("14: -3 nothing is", () -> {
            due("in a new object", new MixfixDesk().item(0, 0), -3);
            due("before -1", new MixfixDesk().item(-1, 0), -3);
            due("before -2", new MixfixDesk().item(0, 4), -3);
            MixfixDesk parsed = Desks.sums();
            Check.parse(parsed, "x");
            due("parsed alone", parsed.item(0, 0), -3);
            parsed.take(1);
            due("take was refused", parsed.item(0, 0), -3);
        });
        CASES.of("14: -1 there is no such number", () -> {
            for (int i : new int[] {-1, 5, 6, 39, 40, 41}) {
                CASES.refused("item(" + i + ", 1)", -1, desk -> desk.item(i, 1));
                CASES.refused("before -2", -1, desk -> desk.item(i, 4));
            }
            for (int i : Desks.FAR) {
                CASES.refused("item(" + i + ", 3)", -1, desk -> desk.item(i, 3));
            }
            due("the last", Desks.busy().item(4, 1), 4);
            MixfixDesk fewer = Desks.busy();
            Check.parse(fewer, "x");
            fewer.take(0);
            due("those taken up before are none", fewer.item(1, 1), -1);
        });
        CASES.of("14: -2 no such what", () -> {
            for (int what : new int[] {-1, 4, 5, 256}) {
                CASES.refused("item(0, " + what + ")", -2, desk -> desk.item(0, what));
                CASES.refused("item(4, " + what + ")", -2, desk -> desk.item(4, what));
            }
            for (int what : Desks.FAR) {
                CASES.refused("item(0, " + what + ")", -2, desk -> desk.item(0, what));
            }
        });
    }

    /** The first tree of a row is taken up and WRITTEN. */
    private static void written(MixfixDesk desk, String row, String due) {
        Check.parse(desk, row);
        desk.take(0);
        due("bytes of " + row, desk.write(), due.length());
        CASES.due("of " + row, Check.written(desk), due);
    }

    private static void write() {
        CASES.of("15: What was taken up is WRITTEN: how many bytes", () -> {
            written(Desks.sums(), "x", "x");
            written(Desks.sums(), "  abcdefgh  ", "abcdefgh");
            written(Desks.sums(), "x   +   y", "( x + y )");
            written(Desks.sums(), "[ [ - x ] ]", "( [ ( [ ( - x ) ] ) ] )");
            MixfixDesk most = Desks.nodes(1);
            Check.operator(most, "abcdefgh _", 0, 0);
            Check.operator(most, "ijklmnop", 0, 0);
            written(most, "abcdefgh ".repeat(39) + "ijklmnop",
                    "( abcdefgh ".repeat(39) + "( ijklmnop )" + " )".repeat(39));
            MixfixDesk again = Desks.busy();
            due("again", again.write(), 17);
            CASES.due("the same", Check.written(again), "( x + ( y * z ) )");
            Check.text(again, "q");
            due("not of THE TEXT", again.write(), 17);
            CASES.due("the same", Check.written(again), "( x + ( y * z ) )");
        });
        CASES.of("15: -3 nothing is", () -> {
            due("in a new object", new MixfixDesk().write(), -3);
            MixfixDesk desk = Desks.busy();
            desk.parse();
            CASES.refusedBy("parsed alone", -3, desk, MixfixDesk::write);
            desk.take(1);
            CASES.refusedBy("take was refused", -3, desk, MixfixDesk::write);
            desk.clear();
            CASES.refusedBy("what was parsed is gone", -3, desk, MixfixDesk::write);
            MixfixDesk other = Desks.minuses();
            written(other, "- - x", "( - ( - x ) )");
            other.take(1);
            other.parse();
            CASES.refusedBy("another was taken up before", -3, other, MixfixDesk::write);
        });
    }

    private static void octet() {
        CASES.of("16: Byte i of what was WRITTEN latest", () -> {
            MixfixDesk desk = Desks.busy();
            String written = "( x + ( y * z ) )";
            for (int i = 0; i < written.length(); i++) {
                due("byte " + i, desk.octet(i), written.charAt(i));
            }
            written(desk, "!~", "!~");
            Check.parse(desk, "x + y");
            desk.take(0);
            due("taken up is not WRITTEN", desk.octet(1), '~');
            desk.clear();
            due("it stays when all is cleared", desk.octet(0), '!');
        });
        CASES.of("16: -1 there is none", () -> {
            due("nothing was WRITTEN", new MixfixDesk().octet(0), -1);
            MixfixDesk unwritten = Desks.sums();
            Check.parse(unwritten, "x");
            unwritten.take(0);
            due("not yet", unwritten.octet(0), -1);
            for (int i : new int[] {-1, 17, 18, 599, 600, 601}) {
                CASES.refused("octet(" + i + ")", -1, desk -> desk.octet(i));
            }
            for (int i : Desks.FAR) {
                CASES.refused("octet(" + i + ")", -1, desk -> desk.octet(i));
            }
            MixfixDesk shorter = Desks.busy();
            written(shorter, "x", "x");
            due("what was WRITTEN before is gone", shorter.octet(1), -1);
        });
    }
}
