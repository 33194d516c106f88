/** Promise 17: a case for each sentence that names a boundary. */
public final class NumberBoundaryTest {
    private static final Cases CASES = new Cases();

    public static void main(String[] args) {
        answers();
        parts();
        wrongTexts();
        shapes();
        sizes();
        misfits();
        stays();
        CASES.end();
    }

    private static void due(String call, long got, long want) {
        CASES.due(call, got, want);
    }

    private static void answers() {
        CASES.of("17: THE TEXT is a TREE, WRITTEN with the WORDS ( and ) as told", () -> {
            due("an ATOM", Check.number(new MixfixDesk(), "x"), 0);
            due("an ATOM of eight bytes", Check.number(new MixfixDesk(), "(abcdef)"), 0);
            due("the WORD () is an ATOM", Check.number(new MixfixDesk(), "()"), 0);
            due("0", Check.number(Desks.minuses(), "( - ( - ( - x ) ) )"), 0);
            due("1", Check.number(Desks.minuses(), "( - ( - - x ) )"), 1);
            due("2", Check.number(Desks.minuses(), "( - - ( - x ) )"), 2);
            MixfixDesk closed = Desks.nodes(1);
            Check.operator(closed, "end", 0, 0);
            due("an OPERATOR of one PART", Check.number(closed, "( end )"), 0);
            due("is no ATOM", Check.number(closed, "end"), -5);
        });
        CASES.of("17: which number it has among those of its WORDS (without these two)", () -> {
            MixfixDesk desk = Desks.minuses();
            Check.parse(desk, "- - - - - x");
            for (int k = 0; k < 8; k++) {
                desk.take(k);
                desk.write();
                due("tree " + k, Check.number(desk, Check.written(desk)), k);
            }
        });
        CASES.of("17: (blanks more than one, also at the ends, may be)", () -> {
            due("between", Check.number(Desks.minuses(), "(   -  -     x  )"), 1);
            due("before", Check.number(Desks.minuses(), "   ( - - x )"), 1);
            due("behind", Check.number(Desks.minuses(), "( - - x )   "), 1);
            due("an ATOM among 1500", Check.number(Desks.minuses(), " ".repeat(700) + "x" + " ".repeat(799)), 0);
            due("fewer than one may not", Check.number(Desks.minuses(), "(- - x )"), -5);
            due("fewer than one may not", Check.number(Desks.minuses(), "( - - x)"), -5);
        });
    }

    private static void parts() {
        CASES.of("17: -3 some OPERATOR has the PART ( or )", () -> {
            for (String row : new String[] {"(", ")", "( _", "_ )", "_ ( _", "_ ) _", "a _ (", ") _ a", "a ( b", "( _ )",
                "a b c d e f g h (", "_ a _ b _ c _ ) _"}) {
                MixfixDesk desk = Desks.busy();
                Check.operator(desk, row, 0, 0);
                CASES.refusedTextBy("x", -3, desk, MixfixDesk::number);
                CASES.refusedTextBy("\t", -3, desk, MixfixDesk::number);
                due("before -5: " + row, Check.number(desk, ""), -3);
            }
            MixfixDesk last = Desks.nodes(1);
            for (int k = 0; k < 29; k++) {
                Check.operator(last, "op" + k + " _", 0, 0);
            }
            due("29 without", Check.number(last, "x"), 0);
            Check.operator(last, "_ )", 0, 0);
            due("the 30th", Check.number(last, "x"), -3);
            last.clear();
            due("after clear", Check.number(last, "x"), 0);
            MixfixDesk near = Desks.nodes(1);
            Check.operator(near, "(( _ ))", 0, 0);
            due("(( and )) are others", Check.number(near, "( (( x )) )"), 0);
        });
    }

    private static void wrongTexts() {
        CASES.of("17: -5 THE TEXT is WRONG", () -> {
            for (int octet = 0; octet < 256; octet++) {
                boolean none = octet < 32 || octet > 126 || octet == '(' || octet == ')' || octet == '_' || octet == ' ';
                due("byte " + octet, Check.number(new MixfixDesk(), "" + (char) octet), none ? -5 : 0);
            }
            for (String text : new String[] {"( x + y\t)", "abcdefghi", "( x + abcdefghi )", "( abcdefghi + x )",
                "( x + y ) \u0000", "\u0080", "( x + \u007f )"}) {
                CASES.refusedText(text, -5, MixfixDesk::number);
            }
            due("before -4", Check.number(Desks.minuses(), "( - ".repeat(40) + "x" + " )".repeat(40) + "\t"), -5);
            due("before -6", Check.number(Desks.sums(), "( x + ( y + z ) ) \t"), -5);
        });
    }

    private static void shapes() {
        CASES.of("17: -5 or nothing of the kind is so WRITTEN (whatever HOLES take)", () -> {
            String[] none = {"", "   ", "(", ")", "( )", ") (", "( ( ) )", "_", "( _ )", "( x )", "( ( x ) )", "x y", "x + y",
                "( x + y", "x + y )", "( x + y ) )", "( ( x + y )", "( ( x + y ) )", "( x + y ) z", "z ( x + y )",
                "( x + y ) ( x + y )", "( x + )", "( + y )", "( + )", "( x + _ )", "( x + y z )", "( x x + y )",
                "( x + y + z )", "( x ( + ) y )", "( ( x ) + y )", "( x + ( y ) )", "( x * )", "( - )", "( - x y )",
                "( [ ] )", "( [ x )", "( x ] )", "( ] x [ )", "+", "( + x y )", "( x y + )", "( x - y )"};
            for (String text : none) {
                CASES.refusedText(text, -5, MixfixDesk::number);
            }
            due("before -4", Check.number(Desks.minuses(), "( - ".repeat(41) + "x" + " )".repeat(40)), -5);
            due("before -4", Check.number(Desks.minuses(), "( - ".repeat(40) + "x" + " )".repeat(41)), -5);
            due("before -4", Check.number(Desks.minuses(), "x ".repeat(41)), -5);
            due("before -6", Check.number(Desks.sums(), "( ( x + ( y + z ) )"), -5);
            due("before -6", Check.number(Desks.sums(), "( ( x + y ) * ( z ) )"), -5);
            due("750 times (", Check.number(Desks.sums(), "( ".repeat(750)), -5);
            due("750 times )", Check.number(Desks.sums(), ") ".repeat(750)), -5);
            due("brackets alone", Check.number(Desks.sums(), "( ".repeat(375) + ") ".repeat(375)), -5);
        });
    }

    private static void sizes() {
        CASES.of("17: -4 there are more than 40 such WORDS", () -> {
            due("forty", Check.number(Desks.minuses(), "( - ".repeat(39) + "x" + " )".repeat(39)), 0);
            due("forty, the last of all", Check.number(Desks.minuses(),
                    "( - - ".repeat(19) + "( - x )" + " )".repeat(19)), 102334154);
            String more = "( - ".repeat(40) + "x" + " )".repeat(40);
            CASES.refusedText(more, -4, MixfixDesk::number);
            MixfixDesk closed = Desks.minuses();
            Check.operator(closed, "end", 0, 0);
            due("forty OPERATORS", Check.number(closed, "( - ".repeat(39) + "( end )" + " )".repeat(39)), 0);
            due("forty-one OPERATORS", Check.number(closed, "( - ".repeat(40) + "( end )" + " )".repeat(40)), -4);
            due("as many as there is room for", Check.number(Desks.minuses(),
                    "( - ".repeat(249) + "x" + " )".repeat(249)), -4);
            due("before -6", Check.number(Desks.sums(), "( x + ".repeat(20) + "y" + " )".repeat(20)), -4);
            due("thirty-nine, -6", Check.number(Desks.sums(), "( x + ".repeat(19) + "y" + " )".repeat(19)), -6);
            due("thirty-nine", Check.number(Desks.sums(), "( ".repeat(19) + "x" + " * y )".repeat(18) + " + z )"), 0);
            due("forty-one", Check.number(Desks.sums(), "( ".repeat(20) + "x" + " * y )".repeat(19) + " + z )"), -4);
        });
    }

    private static void misfits() {
        CASES.of("17: -6 it is no TREE (a HOLE takes not what stands in it)", () -> {
            for (String text : new String[] {"( x + ( y + z ) )", "( ( x + y ) * z )", "( x * ( y + z ) )", "( - ( x + y ) )",
                "( x * ( - y ) )", "( [ ( x * ( y * z ) ) ] )", "( ( x + ( y + z ) ) + ( - x ) )",
                "( x + ( y * ( [ ( - ( x + y ) ) ] ) ) )"}) {
                CASES.refusedText(text, -6, MixfixDesk::number);
            }
            for (String text : new String[] {"( ( x + y ) + z )", "( x + ( y * z ) )", "( ( [ ( x + y ) ] ) * z )",
                "( [ ( [ x ] ) ] )", "( - ( - x ) )", "( x + ( - y ) )", "( - ( [ ( x + y ) ] ) )"}) {
                due("takes: " + text, Check.number(Desks.sums(), text), 0);
            }
        });
    }

    private static void stays() {
        CASES.of("17: What was parsed and taken up stays.", () -> {
            for (String text : new String[] {"x", "( x + y )", "( - ".repeat(39) + "x" + " )".repeat(39),
                "( [ ( [ ( x + y ) ] ) ] )"}) {
                MixfixDesk desk = Desks.busy();
                String before = Desks.look(desk);
                due("a number", Check.number(desk, text), 0);
                CASES.due("all stays", Desks.look(desk), before);
                due("the same again", desk.number(), 0);
                due("it is WRITTEN as before", desk.write(), 17);
                due("it is taken up as before", desk.take(0), 2);
                CASES.due("all stays", Desks.look(desk), before);
            }
        });
    }
}
