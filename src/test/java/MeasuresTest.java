/** Promises 24 to 30. */
public final class MeasuresTest {
    private static final Due due = new Due();

    public static void main(String[] args) {
        step();
        stepOf();
        clear();
        chain();
        chainOver();
        ofEdge();
        ofNet();
        sumOnTheWay();
        best();
        due.end();
    }

    private static void step() {
        MarkedSweeps x = new MarkedSweeps();
        due.is("24: step(7, 0)", x.step(7, 0), Due.BEYOND);
        due.is("24: step(-1, 0)", x.step(-1, 0), Due.BEYOND);
        due.is("24: step(0, 100)", x.step(0, 100), Due.BEYOND);
        due.is("24: step(6, -100)", x.step(6, -100), Due.BEYOND);
        for (int i = 0; i < 8; i++) {
            due.is("24: step " + i, x.step(i % 7, i % 2 == 0 ? 99 : -99), i + 1);
        }
        due.is("24: FULL", x.step(0, 1), Due.FULL);
        due.is("24: BEYOND ahead of FULL", x.step(0, 100), Due.BEYOND);
        due.is("24: count(1)", x.count(1), 8);
        due.is("24: changes", x.count(2), 8);
    }

    private static void stepOf() {
        MarkedSweeps x = new MarkedSweeps();
        x.step(3, -7);
        x.step(6, 99);
        due.is("25: stepOf(0, 0)", x.stepOf(0, 0), 3);
        due.is("25: stepOf(0, 1)", x.stepOf(0, 1), -7);
        due.is("25: stepOf(1, 0)", x.stepOf(1, 0), 6);
        due.is("25: stepOf(1, 1)", x.stepOf(1, 1), 99);
        due.is("25: stepOf(2, 0)", x.stepOf(2, 0), Due.BEYOND);
        due.is("25: stepOf(-1, 0)", x.stepOf(-1, 0), Due.BEYOND);
        due.is("25: stepOf(0, 2)", x.stepOf(0, 2), Due.BEYOND);
        due.is("25: stepOf(0, -1)", x.stepOf(0, -1), Due.BEYOND);
    }

    private static void clear() {
        MarkedSweeps x = new MarkedSweeps();
        due.is("26: of none", x.clear(), 0);
        due.is("26: is a CHANGE", x.count(2), 1);
        x.step(0, 5);
        x.step(1, 2);
        due.is("26: of two", x.clear(), 2);
        due.is("26: count(1)", x.count(1), 0);
        due.is("26: stepOf(0, 0)", x.stepOf(0, 0), Due.BEYOND);
        due.is("26: chain(3)", x.chain(3), 3);
        due.is("26: from new", x.step(1, 7), 1);
        due.is("26: chain(3)", x.chain(3), 21);
    }

    private static void one(int sort, int n, long v, long want) {
        MarkedSweeps x = new MarkedSweeps();
        x.step(sort, n);
        due.is("27: chain of " + sort + " " + n + " for " + v, x.chain(v), want);
    }

    private static void chain() {
        one(0, 7, 3, 10);
        one(0, -7, 3, -4);
        one(1, -9, 5, -45);
        one(1, 0, Long.MIN_VALUE, 0);
        one(2, 7, 30, 2);
        one(2, 7, -30, -2);
        one(2, -7, 30, 2);
        one(2, 0, 30, 30);
        one(2, -1, Long.MIN_VALUE, 0);
        one(3, 5, 4, 5);
        one(3, 5, 6, 6);
        one(4, 5, 4, 4);
        one(4, 5, 6, 5);
        one(5, 5, 7, -2);
        one(6, 50, -7, 49);
        MarkedSweeps x = new MarkedSweeps();
        x.step(0, 1);
        x.step(1, 3);
        x.step(5, 2);
        due.is("27: one behind the other", x.chain(4), -13);
        MarkedSweeps none = new MarkedSweeps();
        due.is("27: no STEPS", none.chain(Long.MIN_VALUE), Long.MIN_VALUE);
        due.is("27: like a finding", none.chain(Due.LONG_OVER), Due.LONG_OVER);
        due.is("27: but none", none.status(-1), 0);
    }

    private static void chainOver() {
        one(0, 1, Long.MAX_VALUE, Due.LONG_OVER);
        one(0, 1, Long.MAX_VALUE - 1, Long.MAX_VALUE);
        one(0, -1, Long.MIN_VALUE, Due.LONG_OVER);
        one(0, -1, Long.MIN_VALUE + 1, Long.MIN_VALUE);
        one(1, -1, Long.MIN_VALUE, Due.LONG_OVER);
        one(1, 1, Long.MIN_VALUE, Long.MIN_VALUE);
        one(1, 2, Long.MIN_VALUE / 2, Long.MIN_VALUE);
        one(1, 2, Long.MIN_VALUE / 2 - 1, Due.LONG_OVER);
        one(1, -2, Long.MIN_VALUE / 2, Due.LONG_OVER);
        one(1, -2, Long.MAX_VALUE / 2 + 1, Long.MIN_VALUE);
        one(1, 99, Long.MAX_VALUE / 99, Long.MAX_VALUE / 99 * 99);
        one(1, 99, Long.MAX_VALUE / 99 + 1, Due.LONG_OVER);
        one(5, -1, Long.MIN_VALUE, Long.MAX_VALUE);
        one(5, 0, Long.MIN_VALUE, Due.LONG_OVER);
        one(5, -2, Long.MAX_VALUE, Due.LONG_OVER);
        one(5, -1, Long.MAX_VALUE, Long.MIN_VALUE);
        one(6, 0, 3037000499L, 9223372030926249001L);
        one(6, 0, -3037000499L, 9223372030926249001L);
        one(6, 0, 3037000500L, Due.LONG_OVER);
        one(6, 0, -3037000500L, Due.LONG_OVER);
        one(6, 0, Long.MIN_VALUE, Due.LONG_OVER);
        one(6, 0, 1L << 32, Due.LONG_OVER);
        MarkedSweeps x = new MarkedSweeps();
        x.step(6, 0);
        x.step(4, 3);
        due.is("27: OVER on the way", x.chain(1L << 40), Due.LONG_OVER);
        due.is("27: status(7)", x.status(7), 1);
        due.is("27: not on the way", x.chain(1L << 20), 3);
    }

    private static void ofEdge() {
        MarkedSweeps x = Due.points(-3, 4, 1, -6, 20, 1);
        long[] measures = {1, 116, 14, 10, 4, 1, 2};
        for (int rule = 0; rule < 7; rule++) {
            due.is("28: ofEdge(1, 0, " + rule + ")", x.ofEdge(1, 0, rule), measures[rule]);
        }
        due.is("28: numbers together", x.ofEdge(1, 2, 5), 3);
        due.is("28: numbers and 1 times one another", x.ofEdge(2, 1, 6), 6);
        x.step(1, 3);
        x.step(0, -1);
        due.is("28: by STEPS", x.ofEdge(0, 1, 2), 41);
        int[][] beyond = {{0, 0, 0}, {0, 3, 0}, {3, 0, 0}, {-1, 0, 0}, {0, -1, 0}, {0, 1, 7},
            {0, 1, -1}};
        for (int[] b : beyond) {
            due.is("28: ofEdge " + b[0] + " " + b[1] + " " + b[2], x.ofEdge(b[0], b[1], b[2]),
                Due.LONG_BEYOND);
        }
        for (int i = 0; i < 5; i++) {
            x.step(6, 0);
        }
        due.is("28: OVER", x.ofEdge(0, 1, 2), Due.LONG_OVER);
        due.is("28: not OVER", x.ofEdge(0, 1, 5), 1L << 32);
        due.is("28: BEYOND ahead of OVER", x.ofEdge(0, 1, 7), Due.LONG_BEYOND);
    }

    private static void ofNet() {
        MarkedSweeps x = Due.square();
        long[][] byRule = {{5, 1, 1, 1}, {600, 200, 100, 200}, {60, 20, 10, 20}, {50, 10, 10, 10},
            {10, 10, 0, 10}, {14, 5, 1, 6}, {27, 12, 2, 15}};
        for (int rule = 0; rule < 7; rule++) {
            for (int fold = 0; fold < 4; fold++) {
                due.is("29: ofNet(0, " + rule + ", " + fold + ")", x.ofNet(0, rule, fold),
                    byRule[rule][fold]);
            }
        }
        due.is("29: of the other", x.ofNet(1, 5, 0), 16);
        x.step(5, 0);
        due.is("29: by STEPS", x.ofNet(1, 5, 0), -16);
        due.is("29: the greatest, all below 0", x.ofNet(1, 5, 1), -1);
        due.is("29: the least", x.ofNet(1, 5, 2), -5);
        due.is("29: ofNet(0, 7, 0)", x.ofNet(0, 7, 0), Due.LONG_BEYOND);
        due.is("29: ofNet(0, -1, 0)", x.ofNet(0, -1, 0), Due.LONG_BEYOND);
        due.is("29: ofNet(0, 0, 4)", x.ofNet(0, 0, 4), Due.LONG_BEYOND);
        due.is("29: ofNet(0, 0, -1)", x.ofNet(0, 0, -1), Due.LONG_BEYOND);
        due.is("29: ofNet(2, 0, 0)", x.ofNet(2, 0, 0), Due.LONG_NONE);
        due.is("29: ofNet(-1, 0, 0)", x.ofNet(-1, 0, 0), Due.LONG_NONE);
        due.is("29: BEYOND ahead of NONE", x.ofNet(9, 7, 0), Due.LONG_BEYOND);
        for (int i = 0; i < 7; i++) {
            x.step(6, 0);
        }
        due.is("29: OVER, though the greatest is wanted", x.ofNet(0, 1, 1), Due.LONG_OVER);
        due.is("29: NONE ahead of OVER", x.ofNet(2, 1, 1), Due.LONG_NONE);
        due.is("29: ones aren't OVER", x.ofNet(0, 0, 0), 5);
    }

    /**
     * A far point and two near ones: two great EDGES and one below 0, whose sum is a long, though
     * that of the great ones alone isn't. So it matters which is taken first.
     */
    private static void sumOnTheWay() {
        MarkedSweeps over = Due.points(-99, -99, 58, 59, 59, 58);
        MarkedSweeps within = Due.points(58, 59, 59, 58, -99, -99);
        MarkedSweeps[] both = {over, within};
        for (MarkedSweeps x : both) {
            x.step(0, -99);
            for (int i = 0; i < 7; i++) {
                x.step(1, 99);
            }
        }
        long times = 93206534790699L;
        due.is("29: a great EDGE", over.ofEdge(0, 1, 1), 49514 * times);
        due.is("29: OVER on the way", over.ofNet(0, 1, 0), Due.LONG_OVER);
        due.is("29: the greatest isn't", over.ofNet(0, 1, 1), 49514 * times);
        due.is("29: the least isn't", over.ofNet(0, 1, 2), -97 * times);
        due.is("29: the other way round", within.ofNet(0, 1, 0), 98931 * times);
        due.is("30: OVER on the way", over.best(1, 0), Due.OVER);
        due.is("30: the other way round", within.best(1, 0), 0);
    }

    private static void best() {
        MarkedSweeps x = Due.square();
        due.is("30: best(5, 0)", x.best(5, 0), 0);
        due.is("30: of several the least", x.best(0, 0), 0);
        x.step(5, 0);
        due.is("30: best(5, 0) turned round", x.best(5, 0), 1);
        due.is("30: best(5, 2)", x.best(5, 2), 0);
        due.is("30: best(7, 0)", x.best(7, 0), Due.BEYOND);
        due.is("30: best(-1, 0)", x.best(-1, 0), Due.BEYOND);
        due.is("30: best(0, 4)", x.best(0, 4), Due.BEYOND);
        due.is("30: best(0, -1)", x.best(0, -1), Due.BEYOND);
        x.mark(0, 1, 2);
        due.is("30: of none", x.best(5, 0), Due.NONE);
        due.is("30: BEYOND ahead of NONE", x.best(7, 0), Due.BEYOND);
        // By rule 1 (0, 2) is 242 and all others at most 181: its eighth power alone is no long.
        MarkedSweeps one = Due.points(0, 0, 10, 0, 11, 11, 0, 9);
        one.step(6, 0);
        one.step(6, 0);
        due.is("30: fourth powers", one.best(1, 1), 1);
        one.step(6, 0);
        due.is("30: of the one that is OVER", one.ofNet(0, 1, 1), Due.LONG_OVER);
        long squared = 181L * 181;
        due.is("30: of the other", one.ofNet(1, 1, 1), squared * squared * squared * squared);
        due.is("30: OVER of any", one.best(1, 1), Due.OVER);
        one.mark(0, 2, 2);
        due.is("30: an EDGE of no NET may be OVER", one.best(1, 1), 0);
    }
}
