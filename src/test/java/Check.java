import java.nio.charset.StandardCharsets;

/** What all tests share: counting wrong answers, and talking to a desk in texts. */
final class Check {
    private int wrong = 0;

    void due(String call, long got, long want) {
        if (got != want) {
            wrong++;
            System.out.println(call + " answered " + got + ", due is " + want);
        }
    }

    void due(String call, String got, String want) {
        if (!got.equals(want)) {
            wrong++;
            System.out.println(call + " answered '" + got + "', due is '" + want + "'");
        }
    }

    void holds(String what, boolean holds) {
        due(what, holds ? "yes" : "no", "yes");
    }

    void end() {
        System.out.println(wrong == 0 ? "all answers are as due" : wrong + " answers are not as due");
        if (wrong != 0) {
            System.exit(1);
        }
    }

    /** Makes a text THE TEXT. */
    static int text(MixfixDesk desk, String text) {
        byte[] bytes = text.getBytes(StandardCharsets.ISO_8859_1);
        int answer = desk.feed(0L, 0);
        for (int from = 0; from < bytes.length; from += 8) {
            int n = Math.min(8, bytes.length - from);
            long v = 0L;
            for (int k = 0; k < n; k++) {
                v = v << 8 | bytes[from + k] & 255;
            }
            answer = desk.feed(v, n);
        }
        return answer;
    }

    static int operator(MixfixDesk desk, String elements, int node, int way) {
        text(desk, elements);
        return desk.operator(node, way);
    }

    static int parse(MixfixDesk desk, String words) {
        text(desk, words);
        return desk.parse();
    }

    static int number(MixfixDesk desk, String written) {
        text(desk, written);
        return desk.number();
    }

    /** What was written latest, as a text. */
    static String written(MixfixDesk desk) {
        StringBuilder all = new StringBuilder();
        for (int i = 0; desk.octet(i) >= 0; i++) {
            all.append((char) desk.octet(i));
        }
        return all.toString();
    }

    static String repeat(String piece, int times) {
        return piece.repeat(times).trim();
    }
}
