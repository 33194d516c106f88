/** Desks that several tests begin with. */
final class Desks {
    static final int[] FAR = {Integer.MIN_VALUE, Integer.MIN_VALUE + 1, -1000, 1000, Integer.MAX_VALUE - 1,
        Integer.MAX_VALUE};

    private Desks() {
    }

    static MixfixDesk nodes(int count) {
        MixfixDesk desk = new MixfixDesk();
        for (int k = 0; k < count; k++) {
            desk.node();
        }
        return desk;
    }

    /** Nodes 0 > 1, with _ + _ (left) 0, _ * _ (left) 1, - _ 2, [ _ ] 3. */
    static MixfixDesk sums() {
        MixfixDesk desk = nodes(2);
        desk.arrow(0, 1);
        Check.operator(desk, "_ + _", 0, 1);
        Check.operator(desk, "_ * _", 1, 1);
        Check.operator(desk, "- _", 1, 0);
        Check.operator(desk, "[ _ ]", 0, 0);
        return desk;
    }

    /** Prefix operators - _ and - - _ : the rows - .. - x have trees as Fibonacci tells. */
    static MixfixDesk minuses() {
        MixfixDesk desk = nodes(1);
        Check.operator(desk, "- _", 0, 0);
        Check.operator(desk, "- - _", 0, 0);
        return desk;
    }

    /** Thirty prefix operators op0 _ .. op29 _ of one node. */
    static MixfixDesk thirty() {
        MixfixDesk desk = nodes(1);
        for (int k = 0; k < 30; k++) {
            Check.operator(desk, "op" + k + " _", 0, 0);
        }
        return desk;
    }

    /** Sums with x + y * z parsed, taken up and written: a desk that has something to lose. */
    static MixfixDesk busy() {
        MixfixDesk desk = sums();
        Check.parse(desk, "x + y * z");
        desk.take(0);
        desk.write();
        return desk;
    }

    /** All that can be looked at without a change. */
    static String look(MixfixDesk desk) {
        StringBuilder seen = new StringBuilder();
        for (int what = 0; what < 4; what++) {
            seen.append(desk.count(what)).append(' ');
        }
        seen.append("trees");
        for (int j = 1; j <= 5; j++) {
            for (int i = 0; i + j <= 5; i++) {
                seen.append(' ').append(desk.trees(i, j));
            }
        }
        seen.append(" items");
        for (int i = 0; i < 6; i++) {
            seen.append(' ').append(desk.item(i, 0)).append(',').append(desk.item(i, 2));
        }
        return seen.append(" written ").append(Check.written(desk)).toString();
    }
}
