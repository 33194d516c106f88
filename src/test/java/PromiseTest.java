/** Each promise by itself: ordinary calls, the edges that the document names, and wrong inputs. */
public final class PromiseTest {
    private static final Check CHECK = new Check();
    private static final int MANY = 1000000000;
    private static final int[] FAR = Desks.FAR;

    public static void main(String[] args) {
        promise1NewObject();
        promise2Feed();
        promise3Node();
        promise4Arrow();
        promise5Cut();
        promise6Operator();
        promise6Refusals();
        promise7About();
        promise8Clear();
        promise9Parse();
        promise9Texts();
        promise10Count();
        promise11Trees();
        promise12With();
        promise13Take();
        promise14Item();
        promise15Write();
        promise16Octet();
        promise17Number();
        promise17Refusals();
        whatHolesTake();
        whatStaysAndGoes();
        CHECK.end();
    }

    private static void due(String call, long got, long want) {
        CHECK.due(call, got, want);
    }

    private static void promise1NewObject() {
        MixfixDesk desk = new MixfixDesk();
        due("1 NODES", desk.count(0), 0);
        due("1 OPERATORS", desk.count(1), 0);
        due("1 ARROWS", desk.count(2), 0);
        due("1 WORDS", desk.count(3), 0);
        due("1 no text", desk.parse(), -2);
        due("1 nothing parsed", desk.trees(0, 1), -3);
        due("1 nothing parsed, with", desk.with(0, 1, -1), -3);
        due("1 nothing parsed, take", desk.take(0), -3);
        due("1 nothing taken up", desk.item(0, 0), -3);
        due("1 nothing to write", desk.write(), -3);
        due("1 nothing written", desk.octet(0), -1);
        due("1 the first byte", desk.feed('x', 1), 1);
    }

    private static void promise2Feed() {
        MixfixDesk desk = new MixfixDesk();
        due("2 the lowest bytes, the highest first", desk.feed(0x4142432B2078L, 3), 3);
        due("2 more", desk.feed(0x2079L, 2), 5);
        due("2 words of + x y", desk.parse(), 0);
        due("2 three words", desk.count(3), 3);
        due("2 one is an atom", desk.trees(2, 1), 1);
        due("2 n below", desk.feed(0L, -1), -2);
        due("2 n above", desk.feed(0L, 9), -2);
        for (int n : FAR) {
            due("2 n far", desk.feed(-1L, n), -2);
        }
        due("2 nothing changed", desk.feed('z', 1), 6);
        due("2 emptied", desk.feed(-1L, 0), 0);
        for (int k = 1; k <= 187; k++) {
            due("2 on the way", desk.feed(0x2020202020202020L, 8), 8 * k);
        }
        due("2 too long", desk.feed(0L, 5), -4);
        due("2 n before room", desk.feed(0L, 9), -2);
        due("2 to the limit", desk.feed(0x20202078L, 4), 1500);
        due("2 no byte more", desk.feed(0x20L, 1), -4);
        due("2 the last byte is there", desk.parse(), 1);
        due("2 emptied again", desk.feed(0L, 0), 0);
        due("2 and fed", desk.feed(0x20L, 1), 1);
    }

    private static void promise3Node() {
        MixfixDesk desk = new MixfixDesk();
        for (int k = 0; k < 16; k++) {
            due("3 a node", desk.node(), k);
        }
        due("3 no room", desk.node(), -4);
        due("3 sixteen", desk.count(0), 16);
        desk.clear();
        due("3 from 0 again", desk.node(), 0);
    }

    private static void promise4Arrow() {
        MixfixDesk desk = new MixfixDesk();
        for (int k = 0; k < 16; k++) {
            desk.node();
        }
        due("4 no such node before a ring", desk.arrow(16, 16), -1);
        due("4 no such first", desk.arrow(-1, 0), -1);
        due("4 no such second", desk.arrow(0, 16), -1);
        for (int k : FAR) {
            due("4 far", desk.arrow(k, 0), -1);
            due("4 far", desk.arrow(0, k), -1);
        }
        due("4 to itself", desk.arrow(3, 3), -3);
        for (int k = 15; k > 0; k--) {
            due("4 new", desk.arrow(k, k - 1), 1);
            due("4 there", desk.arrow(k, k - 1), 0);
        }
        due("4 a ring of two", desk.arrow(0, 1), -3);
        due("4 a ring of all", desk.arrow(0, 15), -3);
        due("4 beside the way", desk.arrow(15, 0), 1);
        due("4 how many", desk.count(2), 16);
        desk.cut(8, 7);
        due("4 a ring by the shorter way", desk.arrow(0, 15), -3);
        due("4 no ring now", desk.arrow(0, 8), 1);
        desk.cut(15, 0);
        due("4 no ring now", desk.arrow(0, 15), 1);
    }

    private static void promise5Cut() {
        MixfixDesk desk = Desks.sums();
        due("5 no such node", desk.cut(0, 2), -1);
        due("5 no such node", desk.cut(2, 0), -1);
        for (int k : FAR) {
            due("5 far", desk.cut(k, 0), -1);
            due("5 far", desk.cut(0, k), -1);
        }
        due("5 none the other way", desk.cut(1, 0), 0);
        due("5 none", desk.cut(0, 0), 0);
        due("5 before", Check.parse(desk, "x + y * z"), 1);
        due("5 goes", desk.cut(0, 1), 1);
        due("5 what was parsed is gone", desk.trees(0, 1), -3);
        due("5 was gone", desk.cut(0, 1), 0);
        due("5 none left", desk.count(2), 0);
        due("5 they do not compare", Check.parse(desk, "x + y * z"), 0);
        due("5 turned", desk.arrow(1, 0), 1);
        due("5 now + is tighter", Check.parse(desk, "x + y * z"), 1);
        due("5 with *", desk.with(0, 5, 1), 1);
    }

    private static void promise6Operator() {
        MixfixDesk desk = new MixfixDesk();
        desk.node();
        due("6 the first", Check.operator(desk, "_ + _", 0, 1), 0);
        due("6 blanks do not count", Check.operator(desk, "   _   +  _  ", 0, 1), -6);
        due("6 the same with another way", Check.operator(desk, "_ + _", 0, 2), -6);
        due("6 one more hole", Check.operator(desk, "_ + _ +", 0, 0), 1);
        due("6 a row that begins alike", Check.operator(desk, "_ +", 0, 0), 2);
        due("6 one part", Check.operator(desk, "x", 0, 0), 3);
        due("6 parts alone", Check.operator(desk, "x x x x x x x x x", 0, 2), 4);
        due("6 nine", Check.operator(desk, "_ a _ b _ c _ d _", 0, 0), 5);
        due("6 words of eight", Check.operator(desk, "abcdefgh _ !~!~!~!~", 0, 0), 6);
        due("6 __ is a part", Check.operator(desk, "__ _ _x", 0, 0), 7);
        due("6 the last byte differs", Check.operator(desk, "abcdefgi _ !~!~!~!~", 0, 0), 8);
        due("6 of ( and )", Check.operator(desk, "( _ )", 0, 0), 9);
        due("6 how many", desk.count(1), 10);
        due("6 about the last", desk.about(9, 4), 0);
    }

    private static void promise6Refusals() {
        MixfixDesk desk = new MixfixDesk();
        due("6 no such node first", Check.operator(desk, "_", 0, 9), -1);
        desk.node();
        for (int k : FAR) {
            due("6 no such node", Check.operator(desk, "x", k, 0), -1);
            due("6 no such way", Check.operator(desk, "x", 0, k), -2);
        }
        due("6 the way before the text", Check.operator(desk, "_", 0, 3), -2);
        String[] none = {"", "  ", "_", "_ _", "_ _ +", "+ _ _", "_ + _ _ +", "a b c d e f g h i j", "abcdefghi",
            "x \t y", "x\u0000", "x \u007f", "\u00e9", "_ a _ b _ c _ d _ e", "\u001f", "x \u00ff _"};
        for (String text : none) {
            due("6 no such row: " + text, Check.operator(desk, text, 0, 0), -5);
        }
        due("6 nothing came", desk.count(1), 0);
        for (int k = 0; k < 30; k++) {
            due("6 number", Check.operator(desk, "op" + k + " _", 0, 0), k);
        }
        due("6 the same before no room", Check.operator(desk, "op0 _", 0, 0), -6);
        due("6 wrong before no room", Check.operator(desk, "_", 0, 0), -5);
        due("6 no room", Check.operator(desk, "op30 _", 0, 0), -4);
        due("6 the last of thirty", Check.parse(desk, "op29 op0 op29 x"), 1);
        due("6 with the last", desk.with(0, 4, 29), 1);
        Check.operator(desk, "op30 _", 0, 0);
        due("6 refusals change nothing", desk.trees(0, 4), 1);
    }

    private static void promise7About() {
        MixfixDesk desk = new MixfixDesk();
        desk.node();
        desk.node();
        String[] rows = {"[ _ ]", "- _", "_ !", "_ + _", "x", "if _ then _ else _"};
        int[] kinds = {0, 1, 2, 3, 0, 1};
        int[] holes = {1, 1, 1, 2, 0, 3};
        int[] sizes = {3, 2, 2, 3, 1, 6};
        for (int o = 0; o < rows.length; o++) {
            due("7 new", Check.operator(desk, rows[o], o % 2, o % 3), o);
        }
        for (int o = 0; o < rows.length; o++) {
            due("7 node", desk.about(o, 0), o % 2);
            due("7 elements", desk.about(o, 1), sizes[o]);
            due("7 holes", desk.about(o, 2), holes[o]);
            due("7 way", desk.about(o, 3), o % 3);
            due("7 kind", desk.about(o, 4), kinds[o]);
            due("7 no such what", desk.about(o, 5), -2);
            due("7 no such what", desk.about(o, -1), -2);
        }
        due("7 none", desk.about(6, 0), -1);
        due("7 none before what", desk.about(-1, 9), -1);
        for (int k : FAR) {
            due("7 far", desk.about(k, 0), -1);
            due("7 far what", desk.about(0, k), -2);
        }
    }

    private static void promise8Clear() {
        MixfixDesk desk = Desks.sums();
        Check.parse(desk, "x + y");
        desk.take(0);
        desk.write();
        due("8 how many", desk.clear(), 4);
        due("8 no nodes", desk.count(0), 0);
        due("8 no operators", desk.count(1), 0);
        due("8 no arrows", desk.count(2), 0);
        due("8 nothing parsed", desk.count(3), 0);
        due("8 nothing parsed", desk.take(0), -3);
        due("8 nothing taken up", desk.item(0, 0), -3);
        due("8 what was written stays", desk.octet(0), '(');
        due("8 the text stays", desk.parse(), 0);
        due("8 + is an atom now", desk.trees(1, 1), 1);
        due("8 again", desk.clear(), 0);
        desk.node();
        desk.node();
        due("8 the arrow is gone", desk.arrow(1, 0), 1);
        due("8 numbers from 0 on", Check.operator(desk, "_ + _", 1, 1), 0);
        due("8 new ones work", Check.parse(desk, "x + y + z"), 1);
    }

    private static void promise9Parse() {
        MixfixDesk desk = Desks.sums();
        due("9 one", Check.parse(desk, "x + y * z + - - a"), 1);
        due("9 left takes no prefix last", Check.parse(desk, "x * - a"), 0);
        due("9 none", Check.parse(desk, "x y"), 0);
        due("9 an atom", Check.parse(desk, "abcdefgh"), 1);
        due("9 a part is none", Check.parse(desk, "+"), 0);
        due("9 _ is none", Check.parse(desk, "_"), 0);
        due("9 _ in a hole is none", Check.parse(desk, "x + _"), 0);
        due("9 inner holes take all", Check.parse(desk, "[ x + y ] * [ [ - x ] ]"), 1);
        due("9 empty closed", Check.parse(desk, "[ ]"), 0);
        MixfixDesk fib = Desks.minuses();
        int before = 1;
        int now = 1;
        for (int k = 1; k < 40; k++) {
            due("9 as Fibonacci tells " + k, Check.parse(fib, "- ".repeat(k) + "x"), now);
            int next = before + now;
            before = now;
            now = next;
        }
        Check.operator(fib, "- - - _", 0, 0);
        due("9 below many", Check.parse(fib, "- ".repeat(34) + "x"), 615693474);
        due("9 many", Check.parse(fib, "- ".repeat(35) + "x"), MANY);
        due("9 many", Check.parse(fib, "- ".repeat(39) + "x"), MANY);
    }

    private static void promise9Texts() {
        MixfixDesk desk = Desks.minuses();
        due("9 forty", Check.parse(desk, "-  ".repeat(39) + "x"), 102334155);
        due("9 more than forty", Check.parse(desk, "- ".repeat(40) + "x"), -4);
        due("9 refusals change nothing", desk.count(3), 40);
        due("9 wrong before too many", Check.parse(desk, "- ".repeat(50) + "abcdefghi"), -5);
        due("9 750 words", Check.parse(desk, "x ".repeat(750)), -4);
        due("9 none", Check.parse(desk, "     "), -2);
        due("9 empty", Check.parse(desk, ""), -2);
        due("9 a long word", Check.parse(desk, "x abcdefghi y"), -5);
        due("9 a long word at the end", Check.parse(desk, "x abcdefghi"), -5);
        due("9 another byte", Check.parse(desk, "x\ty"), -5);
        due("9 127", Check.parse(desk, "x \u007f"), -5);
        due("9 0", Check.parse(desk, "\u0000"), -5);
        due("9 255", Check.parse(desk, "\u00ff"), -5);
        due("9 33 and 126", Check.parse(desk, "!~"), 1);
        due("9 nothing else changed", desk.count(3), 1);
    }

    private static void promise10Count() {
        MixfixDesk desk = Desks.sums();
        due("10 nodes", desk.count(0), 2);
        due("10 operators", desk.count(1), 4);
        due("10 arrows", desk.count(2), 1);
        due("10 nothing parsed", desk.count(3), 0);
        Check.parse(desk, " x  + y * [ z ] ");
        due("10 words", desk.count(3), 7);
        due("10 no such what", desk.count(4), -2);
        due("10 no such what", desk.count(-1), -2);
        for (int k : FAR) {
            due("10 far", desk.count(k), -2);
        }
        desk.node();
        due("10 a node takes nothing away", desk.count(3), 7);
        Check.operator(desk, "!", 2, 0);
        due("10 an operator does", desk.count(3), 0);
    }

    private static void promise11Trees() {
        MixfixDesk desk = Desks.minuses();
        due("11 nothing parsed before no such words", desk.trees(-1, 0), -3);
        Check.parse(desk, "- - - - - x");
        due("11 all", desk.trees(0, 6), 8);
        due("11 some", desk.trees(2, 4), 3);
        due("11 one", desk.trees(5, 1), 1);
        due("11 a part", desk.trees(0, 1), 0);
        due("11 parts", desk.trees(0, 5), 0);
        due("11 j at least 1", desk.trees(0, 0), -1);
        due("11 j below", desk.trees(3, -2), -1);
        due("11 too many", desk.trees(0, 7), -1);
        due("11 behind", desk.trees(6, 1), -1);
        due("11 over the end", desk.trees(5, 2), -1);
        due("11 i below", desk.trees(-1, 2), -1);
        for (int k : FAR) {
            due("11 far", desk.trees(k, 1), -1);
            due("11 far", desk.trees(0, k), -1);
            due("11 far", desk.trees(k, k), -1);
            due("11 far", desk.trees(5, k), -1);
        }
    }

    private static void promise12With() {
        MixfixDesk desk = Desks.minuses();
        due("12 nothing parsed first", desk.with(-1, 0, 9), -3);
        Check.parse(desk, "- - - - - x");
        due("12 with 0", desk.with(0, 6, 0), 5);
        due("12 with 1", desk.with(0, 6, 1), 3);
        due("12 atoms of many words", desk.with(0, 6, -1), 0);
        due("12 an atom", desk.with(5, 1, -1), 1);
        due("12 a part is no atom", desk.with(0, 1, -1), 0);
        due("12 an atom has no operator", desk.with(5, 1, 0), 0);
        due("12 no such operator", desk.with(0, 6, 2), -1);
        due("12 no such operator", desk.with(0, 6, -2), -1);
        due("12 no such words", desk.with(0, 7, 0), -1);
        due("12 no such words", desk.with(2, 0, -1), -1);
        for (int k : FAR) {
            due("12 far", desk.with(0, 1, k), -1);
            due("12 far", desk.with(k, 1, 0), -1);
            due("12 far", desk.with(1, k, 0), -1);
        }
    }

    private static void promise13Take() {
        MixfixDesk desk = Desks.minuses();
        due("13 nothing parsed", desk.take(-1), -3);
        Check.parse(desk, "- - - x");
        due("13 the first", desk.take(0), 3);
        due("13 the second", desk.take(1), 2);
        due("13 the third", desk.take(2), 2);
        due("13 no such", desk.take(3), -1);
        due("13 below", desk.take(-1), -1);
        due("13 what was taken up stays", desk.item(0, 0), 1);
        for (int k : FAR) {
            due("13 far", desk.take(k), -1);
        }
        due("13 an atom", Check.parse(desk, "x"), 1);
        due("13 has no operators", desk.take(0), 0);
        Check.operator(desk, "- - - _", 0, 0);
        due("13 many", Check.parse(desk, "- ".repeat(39) + "x"), MANY);
        due("13 the first of many", desk.take(0), 39);
        due("13 the last that is told", desk.take(MANY - 1) > 0 ? 1 : 0, 1);
        due("13 not one more", desk.take(MANY), -1);
    }

    private static void promise14Item() {
        MixfixDesk desk = Desks.sums();
        due("14 nothing is", desk.item(-1, 9), -3);
        Check.parse(desk, "x + [ y * z ]");
        due("14 nothing is taken up yet", desk.item(0, 0), -3);
        due("14 take", desk.take(0), 3);
        int[][] items = {{0, 0, 7, 0}, {-1, 0, 1, 1}, {3, 2, 5, 1}, {1, 3, 3, 2}, {-1, 3, 1, 3}, {-1, 5, 1, 3}};
        for (int i = 0; i < items.length; i++) {
            for (int what = 0; what < 4; what++) {
                due("14 item " + i + ", " + what, desk.item(i, what), items[i][what]);
            }
            due("14 no such what", desk.item(i, 4), -2);
            due("14 no such what", desk.item(i, -1), -2);
        }
        due("14 no such number before what", desk.item(6, 4), -1);
        due("14 below", desk.item(-1, 1), -1);
        for (int k : FAR) {
            due("14 far", desk.item(k, 1), -1);
            due("14 far what", desk.item(0, k), -2);
        }
        MixfixDesk deep = Desks.minuses();
        Check.parse(deep, "- ".repeat(39) + "x");
        deep.take(0);
        due("14 the deepest", deep.item(39, 3), 39);
        due("14 its first word", deep.item(39, 1), 39);
        due("14 no more", deep.item(40, 3), -1);
    }

    private static void promise15Write() {
        MixfixDesk desk = Desks.sums();
        due("15 nothing is", desk.write(), -3);
        Check.parse(desk, "  x +  [ - abcdefgh ] + y");
        due("15 parsed only", desk.write(), -3);
        desk.take(0);
        due("15 bytes", desk.write(), 38);
        CHECK.due("15 written", Check.written(desk), "( ( x + ( [ ( - abcdefgh ) ] ) ) + y )");
        Check.parse(desk, "abc");
        desk.take(0);
        due("15 an atom", desk.write(), 3);
        CHECK.due("15 written", Check.written(desk), "abc");
        MixfixDesk longest = new MixfixDesk();
        longest.node();
        Check.operator(longest, "abcdefgh _", 0, 0);
        Check.parse(longest, "abcdefgh ".repeat(39) + "ijklmnop");
        longest.take(0);
        due("15 the longest", longest.write(), 320 + 39 + 39 * 4);
        CHECK.due("15 the longest", Check.written(longest),
                "( abcdefgh ".repeat(39) + "ijklmnop" + " )".repeat(39));
        Check.operator(longest, "x", 0, 0);
        Check.parse(longest, "x");
        longest.take(0);
        due("15 an operator of one part", longest.write(), 5);
        CHECK.due("15 an operator of one part", Check.written(longest), "( x )");
    }

    private static void promise16Octet() {
        MixfixDesk desk = Desks.sums();
        Check.parse(desk, "x + y");
        desk.take(0);
        due("16 taken up, not written", desk.octet(0), -1);
        desk.write();
        String written = "( x + y )";
        for (int i = 0; i < written.length(); i++) {
            due("16 byte " + i, desk.octet(i), written.charAt(i));
        }
        due("16 behind", desk.octet(written.length()), -1);
        due("16 below", desk.octet(-1), -1);
        for (int k : FAR) {
            due("16 far", desk.octet(k), -1);
        }
        Check.parse(desk, "z");
        due("16 stays while parsed", desk.octet(2), 'x');
        desk.take(0);
        due("16 stays while taken up", desk.octet(8), ')');
        desk.write();
        due("16 the latest", desk.octet(0), 'z');
        due("16 the latest is shorter", desk.octet(1), -1);
    }

    private static void promise17Number() {
        MixfixDesk desk = Desks.minuses();
        Check.parse(desk, "- - x");
        desk.take(1);
        due("17 0", Check.number(desk, "( - ( - ( - x ) ) )"), 0);
        due("17 1", Check.number(desk, "( - ( - - x ) )"), 1);
        due("17 2", Check.number(desk, "  (  - -   ( - x ) )  "), 2);
        due("17 an atom", Check.number(desk, "y"), 0);
        due("17 (x is an atom", Check.number(desk, "(x"), 0);
        due("17 x) is an atom", Check.number(desk, "( - x) )"), 0);
        due("17 what was parsed stays", desk.count(3), 3);
        due("17 its trees stay", desk.trees(0, 3), 2);
        due("17 what was taken up stays", desk.item(0, 0), 1);
        due("17 and is written", desk.write(), 9);
        CHECK.due("17 as it was", Check.written(desk), "( - - x )");
        Check.operator(desk, "- - - _", 0, 0);
        due("17 the first of many", Check.number(desk, "( - ".repeat(39) + "x" + " )".repeat(39)), 0);
        due("17 the last of many", Check.number(desk, "( - - - ".repeat(13) + "x" + " )".repeat(13)), MANY);
        due("17 the last of 615693474", Check.number(desk, "( - - - ".repeat(11) + "( - x )" + " )".repeat(11)),
                615693473);
        MixfixDesk bare = new MixfixDesk();
        due("17 without operators", Check.number(bare, "x"), 0);
        due("17 ( is no atom here", Check.number(bare, "("), -5);
        due("17 ) is no atom here", Check.number(bare, ")"), -5);
    }

    private static void promise17Refusals() {
        MixfixDesk desk = Desks.sums();
        String[] none = {"", "  ", "+", "_", "x y", "( x )", "( )", "(", ")", ") (", "( x + y", "x + y )", "x + y",
            "( x + y ) )", "( ( x + y )", "( x + y + z )", "( x + + )", "( + y )", "( ( x ) + y )", "( x + _ )",
            "( x + abcdefghi )", "( x + y ) z", "( x\t+ y )", "( ( x + y ) ( x + y ) )", "( [ ] )"};
        for (String text : none) {
            due("17 nothing so written: " + text, Check.number(desk, text), -5);
        }
        due("17 a hole takes not", Check.number(desk, "( x + ( y + z ) )"), -6);
        due("17 a hole takes not", Check.number(desk, "( ( x + y ) * z )"), -6);
        due("17 deep inside", Check.number(desk, "( x * ( [ ( y * ( z + a ) ) ] ) )"), -6);
        due("17 not so written before", Check.number(desk, "( ( x + ( y + z ) )"), -5);
        due("17 inner holes take all", Check.number(desk, "( [ ( x + y ) ] )"), 0);
        String forty = "( - ".repeat(20) + "( [ ".repeat(9) + "( x + y )" + " ] )".repeat(9) + " )".repeat(20);
        due("17 forty-one that do not fit", Check.number(desk, forty), -4);
        due("17 forty-one", Check.number(desk, "( [ ".repeat(20) + "x" + " ] )".repeat(20)), -4);
        due("17 thirty-nine", Check.number(desk, "( [ ".repeat(19) + "x" + " ] )".repeat(19)), 0);
        due("17 forty", Check.number(desk, "( [ ".repeat(19) + "( - x )" + " ] )".repeat(19)), 0);
        due("17 too many, none so written", Check.number(desk, "( [ ".repeat(21) + "x" + " ] )".repeat(20)), -5);
        due("17 brackets alone", Check.number(desk, "( ".repeat(750)), -5);
        due("17 deep and long", Check.number(desk, "( - ".repeat(249) + "x" + " )".repeat(249)), -4);
        Check.operator(desk, "_ ( _ x", 0, 0);
        due("17 a part ( comes first", Check.number(desk, "\t"), -3);
        MixfixDesk shut = Desks.sums();
        Check.operator(shut, "_ )", 0, 0);
        due("17 a part ) comes first", Check.number(shut, "x"), -3);
        shut.clear();
        due("17 none after clear", Check.number(shut, "x"), 0);
    }

    private static void whatHolesTake() {
        MixfixDesk desk = new MixfixDesk();
        for (int k = 0; k < 4; k++) {
            desk.node();
        }
        desk.arrow(0, 1);
        desk.arrow(1, 2);
        Check.operator(desk, "_ or _", 0, 2);
        Check.operator(desk, "_ and _", 1, 0);
        Check.operator(desk, "_ is _", 2, 1);
        Check.operator(desk, "not _", 0, 1);
        Check.operator(desk, "_ yes", 2, 0);
        Check.operator(desk, "_ far _", 3, 0);
        Check.operator(desk, "< _ >", 3, 0);
        due("holes: tighter", Check.parse(desk, "x or y and z"), 1);
        due("holes: what follows does not count", Check.parse(desk, "x or y is z"), 0);
        due("holes: two steps", Check.parse(desk, "x and y is z"), 1);
        due("holes: neither", Check.parse(desk, "x and y and z"), 0);
        due("holes: right", Check.parse(desk, "x or y or z"), 1);
        due("holes: right takes prefix of its node", Check.parse(desk, "x or not y or z"), 1);
        due("holes: prefix is not taken first", Check.parse(desk, "not x or y"), 1);
        due("holes: so it is outside", desk.with(0, 4, 3), 1);
        due("holes: left and postfix", Check.parse(desk, "x is y yes yes is z"), 1);
        due("holes: left takes none last", desk.trees(2, 3), 1);
        due("holes: nodes that do not compare", Check.parse(desk, "x far y or z"), 0);
        due("holes: closed ones fit everywhere", Check.parse(desk, "< x far y > or < z >"), 1);
        due("holes: the way counts for infix alone", Check.parse(desk, "not not x"), 1);
    }

    private static void whatStaysAndGoes() {
        for (int change = 0; change < 4; change++) {
            MixfixDesk desk = Desks.sums();
            Check.parse(desk, "x + y");
            desk.take(0);
            desk.arrow(0, 1);
            desk.cut(1, 0);
            desk.arrow(1, 0);
            desk.node();
            Check.text(desk, "_ + _");
            desk.operator(0, 0);
            due("refusals leave what was parsed", desk.count(3), 3);
            due("refusals leave what was taken up", desk.item(0, 0), 0);
            Check.text(desk, "new");
            due("a change", change == 0 ? desk.arrow(0, 2) : change == 1 ? desk.cut(0, 1)
                    : change == 2 ? desk.operator(0, 0) : desk.clear(), change < 2 ? 1 : 4);
            due("nothing is parsed", desk.count(3), 0);
            due("nothing is parsed", desk.trees(0, 1), -3);
            due("nothing is parsed", desk.take(0), -3);
            due("nothing is taken up", desk.item(0, 0), -3);
            due("nothing is taken up", desk.write(), -3);
        }
    }
}
