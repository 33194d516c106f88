import java.util.Random;

/** Random calls in any state: none throws, and a refusal changes nothing that can be seen. */
public final class StormTest {
    private static final Check CHECK = new Check();
    private static final String[] PIECES = {"_", "_ ", " _", " + ", " - ", "x", " y ", "( ", " )", "(", " [ ", " ] ",
        " x ", " _ + _ ", "( x + y )", "abcdefgh", "\t", "\u0080", "  ", " - - x "};

    public static void main(String[] args) {
        for (int seed = 0; seed < 3000; seed++) {
            Random random = new Random(seed);
            MixfixDesk desk = new MixfixDesk();
            StringBuilder calls = new StringBuilder();
            try {
                storm(desk, random, calls);
            } catch (RuntimeException thrown) {
                CHECK.due("seed " + seed + calls, thrown.toString(), "an answer");
            }
        }
        CHECK.end();
    }

    private static void storm(MixfixDesk desk, Random random, StringBuilder calls) {
        for (int step = 0; step < 100; step++) {
            long before = look(desk);
            int which = random.nextInt(18);
            int answer = call(desk, random, which);
            calls.append(' ').append(which).append('=').append(answer);
            if (answer < 0 && which < 9 && before != look(desk)) {
                CHECK.due("a refusal changed something:" + calls, look(desk), before);
            }
        }
    }

    private static long look(MixfixDesk desk) {
        long seen = 0L;
        for (int what = 0; what < 4; what++) {
            seen = seen * 31 + desk.count(what);
        }
        return (seen * 31 + desk.item(0, 0)) * 31 + desk.trees(0, 1);
    }

    private static int number(Random random) {
        switch (random.nextInt(8)) {
            case 0:
                return random.nextInt();
            case 1:
                return random.nextInt(50) - 5;
            case 2:
                return random.nextBoolean() ? Integer.MAX_VALUE : Integer.MIN_VALUE;
            default:
                return random.nextInt(4);
        }
    }

    private static int call(MixfixDesk desk, Random random, int which) {
        int a = number(random);
        int b = number(random);
        switch (which) {
            case 0:
                return desk.feed(random.nextLong(), a);
            case 1:
                return desk.node();
            case 2:
                return desk.arrow(a, b);
            case 3:
                return desk.cut(a, b);
            case 4:
                return desk.operator(a, b);
            case 5:
                return Check.operator(desk, text(random, 4), a, b);
            case 6:
                return random.nextInt(20) == 0 ? desk.clear() : 0;
            case 7:
                return desk.parse();
            case 8:
                return Check.parse(desk, text(random, 12));
            case 9:
                return desk.about(a, b);
            case 10:
                return desk.count(a);
            case 11:
                return desk.trees(a, b);
            case 12:
                return desk.with(a, b, number(random));
            case 13:
                return desk.take(a);
            case 14:
                return desk.item(a, b);
            case 15:
                return desk.write();
            case 16:
                return desk.octet(a);
            default:
                return Check.number(desk, text(random, 12));
        }
    }

    private static String text(Random random, int most) {
        StringBuilder all = new StringBuilder();
        for (int k = random.nextInt(most + 1); k > 0; k--) {
            int which = random.nextInt(PIECES.length);
            all.append(PIECES[random.nextInt(6) > 0 ? which % 15 : which]);
        }
        return all.toString();
    }
}
