import java.math.BigInteger;
import java.util.function.Supplier;

/** The boundary cases of promises 24 to 30, sentence by sentence. */
public final class BoundsOfMeasuresTest {
    private static final Due due = new Due();
    private static final Twins twins = new Twins(due);
    private static final int[] NO_RULE = {-1, 7, 8, Due.MOST, Due.LEAST};
    private static final int[] NO_FOLD = {-1, 4, 5, Due.MOST, Due.LEAST};
    private static final int[] NO_POINT_OF_SQUARE = {-1, 4, 8, 9, Due.MOST, Due.LEAST};
    private static final int[] NO_NET_OF_SQUARE = {-1, 2, 3, 800, Due.MOST, Due.LEAST};

    public static void main(String[] args) {
        stepBeyond();
        stepFull();
        stepOfBeyond();
        clearNoneAndAll();
        chainAtTheBounds();
        chainOnTheWay();
        restByNothing();
        greaterAndLesser();
        ofEdgeBeyond();
        ofEdgeFarthest();
        ofEdgeOver();
        ofNetBeyond();
        ofNetNone();
        ofNetOver();
        ofNetSum();
        bestBeyondAndNone();
        bestLeast();
        bestOver();
        due.end();
    }

    private static MarkedSweeps full() {
        MarkedSweeps x = new MarkedSweeps();
        for (int i = 0; i < 8; i++) {
            x.step(i % 7, i);
        }
        return x;
    }

    private static MarkedSweeps barredSquare() {
        MarkedSweeps x = Due.square();
        x.mark(0, 1, 2);
        return x;
    }

    /** The square with so many STEPS that square: 100 and 200 are soon too great, ones never. */
    private static MarkedSweeps steep(int squares) {
        MarkedSweeps x = Due.square();
        for (int i = 0; i < squares; i++) {
            x.step(6, 0);
        }
        return x;
    }

    /** "BEYOND": sorts are 0 to 6, n is -99 to 99. */
    private static void stepBeyond() {
        int[] sorts = {-1, 7, 8, Due.MOST, Due.LEAST};
        for (int sort : sorts) {
            twins.refuse("24: step(" + sort + ", 1)", Due::rich, x -> x.step(sort, 1), Due.BEYOND);
        }
        int[] numbers = {-100, 100, Due.MOST, Due.LEAST, 256, -256};
        for (int n : numbers) {
            for (int sort = 0; sort < 7; sort++) {
                int s = sort;
                twins.refuse("24: step(" + s + ", " + n + ")", Due::rich, x -> x.step(s, n),
                    Due.BEYOND);
            }
        }
        for (int sort = 0; sort < 7; sort++) {
            MarkedSweeps x = new MarkedSweeps();
            due.is("24: step(" + sort + ", -99)", x.step(sort, -99), 1);
            due.is("24: step(" + sort + ", 99)", x.step(sort, 99), 2);
            due.is("25: its number", x.stepOf(0, 1), -99);
            due.is("25: its number", x.stepOf(1, 1), 99);
            due.is("25: its sort", x.stepOf(1, 0), sort);
        }
    }

    /** "FULL": at most 8. "One more STEP: how many there are." */
    private static void stepFull() {
        MarkedSweeps x = new MarkedSweeps();
        for (int i = 1; i <= 8; i++) {
            due.is("24: how many", x.step(0, i), i);
        }
        due.is("24: no finding", x.status(-1), 0);
        due.is("27: all eight", x.chain(0), 36);
        twins.refuse("24: a ninth", BoundsOfMeasuresTest::full, y -> y.step(0, 1), Due.FULL);
        twins.refuse("24: BEYOND, FULL", BoundsOfMeasuresTest::full, y -> y.step(7, 1), Due.BEYOND);
        twins.refuse("24: BEYOND, FULL", BoundsOfMeasuresTest::full, y -> y.step(0, 100),
            Due.BEYOND);
        x.undo();
        due.is("24: room by undo()", x.step(0, 50), 8);
        x.clear();
        due.is("24: room by clear()", x.step(0, 50), 1);
    }

    /** "BEYOND": no such STEP; what is 0, 1. */
    private static void stepOfBeyond() {
        int[] beyond = {-1, 8, 9, Due.MOST, Due.LEAST};
        int[] ofRich = {-1, 2, 3, 7};
        for (int what = 0; what < 2; what++) {
            int w = what;
            for (int i : beyond) {
                twins.refuse("25: stepOf(" + i + ", " + w + ")", BoundsOfMeasuresTest::full,
                    x -> x.stepOf(i, w), Due.BEYOND);
            }
            for (int i : ofRich) {
                twins.refuse("25: rich, stepOf(" + i + ", " + w + ")", Due::rich,
                    x -> x.stepOf(i, w), Due.BEYOND);
            }
            twins.refuse("25: of none", MarkedSweeps::new, x -> x.stepOf(0, w), Due.BEYOND);
        }
        int[] whats = {-1, 2, Due.MOST, Due.LEAST};
        for (int what : whats) {
            twins.refuse("25: stepOf(0, " + what + ")", BoundsOfMeasuresTest::full,
                x -> x.stepOf(0, what), Due.BEYOND);
        }
        twins.answer("25: the first", BoundsOfMeasuresTest::full, x -> x.stepOf(0, 0), 0);
        twins.answer("25: the last, its sort", BoundsOfMeasuresTest::full, x -> x.stepOf(7, 0), 0);
        twins.answer("25: the last, its number", BoundsOfMeasuresTest::full, x -> x.stepOf(7, 1),
            7);
        MarkedSweeps cleared = full();
        cleared.clear();
        due.is("25: they are gone", cleared.stepOf(0, 0), Due.BEYOND);
    }

    /** "There are no STEPS: how many there were." */
    private static void clearNoneAndAll() {
        MarkedSweeps x = new MarkedSweeps();
        due.is("26: of none", x.clear(), 0);
        due.is("26: no finding", x.status(-1), 0);
        due.is("26: a CHANGE", x.count(2), 1);
        MarkedSweeps all = full();
        due.is("26: of eight", all.clear(), 8);
        due.is("26: none are left", all.count(1), 0);
        due.is("26: none again", all.clear(), 0);
        due.is("26: two CHANGES", all.count(2), 10);
        all.undo();
        all.undo();
        twins.alike("26: undone", all, full());
    }

    private static void chained(int sort, int n, long v) {
        BigInteger big = BigInteger.valueOf(v);
        BigInteger by = BigInteger.valueOf(n);
        BigInteger made = sort == 0 ? big.add(by) : sort == 1 ? big.multiply(by)
            : sort == 5 ? by.subtract(big) : big.multiply(big);
        Supplier<MarkedSweeps> one = () -> {
            MarkedSweeps x = new MarkedSweeps();
            x.step(sort, n);
            return x;
        };
        String name = "27: " + v + " by " + sort + " " + n;
        if (made.bitLength() > 63) {
            twins.refuse(name, one, x -> x.chain(v), Due.LONG_OVER);
        } else {
            twins.answer(name, one, x -> x.chain(v), made.longValue());
        }
    }

    /** "OVER: anything on the way to it isn't a long": each sort just below, at and just above. */
    private static void chainAtTheBounds() {
        long most = Long.MAX_VALUE;
        long least = Long.MIN_VALUE;
        int[] numbers = {-99, -98, -3, -2, -1, 0, 1, 2, 3, 98, 99};
        for (int n : numbers) {
            for (int off = -2; off <= 2; off++) {
                chained(0, n, most - Math.max(n, 2) + off);
                chained(0, n, least - Math.min(n, -2) + off);
                chained(5, n, least + Math.max(n + 1, 0) + Math.max(off, 0));
                chained(5, n, most + Math.min(n + 2, 0) + Math.min(off, 0));
                if (n != 0) {
                    chained(1, n, most / n + (Math.abs(n) == 1 ? -n * Math.abs(off) : off));
                    long part = n == -1 ? most : least / n;
                    chained(1, n, part + (n == 1 ? Math.abs(off) : n == -1 ? -Math.abs(off) : off));
                }
            }
            chained(1, n, most);
            chained(1, n, least);
            chained(0, n, most);
            chained(0, n, least);
            chained(5, n, most);
            chained(5, n, least);
        }
        long root = 3037000499L;
        for (int off = -2; off <= 2; off++) {
            chained(6, 0, root + off);
            chained(6, 99, -root + off);
        }
        chained(6, 0, most);
        chained(6, 0, least);
        chained(6, 0, 1L << 32);
        chained(6, 0, 1L << 31);
        chained(6, 0, 0);
    }

    /** Anything on the way, though what comes behind it would bring it back. */
    private static void chainOnTheWay() {
        Supplier<MarkedSweeps> made = () -> {
            MarkedSweeps x = new MarkedSweeps();
            x.step(1, 2);
            x.step(2, 7);
            x.step(1, 0);
            return x;
        };
        twins.refuse("27: on the way", made, x -> x.chain(1L << 62), Due.LONG_OVER);
        twins.answer("27: just not", made, x -> x.chain((1L << 62) - 1), 0);
        twins.answer("27: just not, below", made, x -> x.chain(-1L << 62), 0);
        twins.refuse("27: on the way, below", made, x -> x.chain((-1L << 62) - 1), Due.LONG_OVER);
        Supplier<MarkedSweeps> last = () -> {
            MarkedSweeps x = new MarkedSweeps();
            for (int i = 0; i < 7; i++) {
                x.step(0, 0);
            }
            x.step(0, 1);
            return x;
        };
        twins.refuse("27: by the eighth", last, x -> x.chain(Long.MAX_VALUE), Due.LONG_OVER);
        twins.answer("27: no STEPS, the greatest", MarkedSweeps::new,
            x -> x.chain(Long.MAX_VALUE), Long.MAX_VALUE);
        twins.answer("27: no STEPS, the least", MarkedSweeps::new, x -> x.chain(Long.MIN_VALUE),
            Long.MIN_VALUE);
        twins.answer("27: what looks like a finding", MarkedSweeps::new,
            x -> x.chain(Due.LONG_OVER), Due.LONG_OVER);
    }

    private static void one(int sort, int n, long v, long want) {
        twins.answer("27: " + v + " by " + sort + " " + n, () -> {
            MarkedSweeps x = new MarkedSweeps();
            x.step(sort, n);
            return x;
        }, x -> x.chain(v), want);
    }

    /** "the rest of v by n (v, if n is 0)". */
    private static void restByNothing() {
        long[] values = {0, 1, -1, 5, Long.MAX_VALUE, Long.MIN_VALUE};
        for (long v : values) {
            one(2, 0, v, v);
            one(2, 1, v, 0);
            one(2, -1, v, 0);
        }
        one(2, 99, 98, 98);
        one(2, 99, 99, 0);
        one(2, 99, 100, 1);
        one(2, 7, Long.MAX_VALUE, 0);
        one(2, 2, Long.MIN_VALUE, 0);
    }

    /** "3: the greater of v and n. 4: the lesser": just below n, at it, just above. */
    private static void greaterAndLesser() {
        int[] numbers = {-99, 0, 99};
        for (int n : numbers) {
            one(3, n, n - 1, n);
            one(3, n, n, n);
            one(3, n, n + 1, n + 1);
            one(4, n, n - 1, n - 1);
            one(4, n, n, n);
            one(4, n, n + 1, n);
            one(3, n, Long.MIN_VALUE, n);
            one(3, n, Long.MAX_VALUE, Long.MAX_VALUE);
            one(4, n, Long.MIN_VALUE, Long.MIN_VALUE);
            one(4, n, Long.MAX_VALUE, n);
        }
    }

    /** "BEYOND": POINTS; rules are 0 to 6. */
    private static void ofEdgeBeyond() {
        for (int i : NO_POINT_OF_SQUARE) {
            twins.refuse("28: ofEdge(" + i + ", 0, 0)", Due::square, x -> x.ofEdge(i, 0, 0),
                Due.LONG_BEYOND);
            twins.refuse("28: ofEdge(0, " + i + ", 0)", Due::square, x -> x.ofEdge(0, i, 0),
                Due.LONG_BEYOND);
        }
        for (int rule : NO_RULE) {
            twins.refuse("28: ofEdge(0, 1, " + rule + ")", Due::square,
                x -> x.ofEdge(0, 1, rule), Due.LONG_BEYOND);
            twins.refuse("28: BEYOND, OVER", () -> steep(8), x -> x.ofEdge(0, 1, rule),
                Due.LONG_BEYOND);
        }
        twins.refuse("28: no EDGE", Due::square, x -> x.ofEdge(1, 1, 0), Due.LONG_BEYOND);
        twins.refuse("28: of one POINT", () -> Due.points(0, 0), x -> x.ofEdge(0, 1, 0),
            Due.LONG_BEYOND);
        long[] ofRules = {1, 100, 10, 10, 0, 5, 12};
        for (int rule = 0; rule < 7; rule++) {
            int r = rule;
            twins.answer("28: by RULE " + r, Due::square, x -> x.ofEdge(3, 2, r), ofRules[r]);
        }
        twins.answer("28: of two POINTS", () -> Due.points(1, 1, 2, 3), x -> x.ofEdge(0, 1, 1), 5);
    }

    /** RULES at their least and greatest. */
    private static void ofEdgeFarthest() {
        Supplier<MarkedSweeps> far = () -> Due.points(-99, 99, 99, -99);
        long[] farthest = {1, 78408, 396, 198, 198, 1, 2};
        Supplier<MarkedSweeps> level = () -> Due.points(-99, 7, 99, 7);
        long[] ofLevel = {1, 39204, 198, 198, 0, 1, 2};
        Supplier<MarkedSweeps> upright = () -> Due.points(7, 99, 7, 98);
        long[] ofUpright = {1, 1, 1, 1, 0, 1, 2};
        for (int rule = 0; rule < 7; rule++) {
            int r = rule;
            twins.answer("28: the farthest by " + r, far, x -> x.ofEdge(0, 1, r), farthest[r]);
            twins.answer("28: the other way round", far, x -> x.ofEdge(1, 0, r), farthest[r]);
            twins.answer("28: level by " + r, level, x -> x.ofEdge(0, 1, r), ofLevel[r]);
            twins.answer("28: upright by " + r, upright, x -> x.ofEdge(1, 0, r), ofUpright[r]);
        }
        twins.answer("28: the last numbers together", () -> Due.bow(9), x -> x.ofEdge(7, 8, 5), 15);
        twins.answer("28: times one another", () -> Due.bow(9), x -> x.ofEdge(8, 7, 6), 72);
        twins.answer("28: an EDGE that is BARRED", Due::rich, x -> x.ofEdge(1, 3, 0), -4);
    }

    /** "OVER." */
    private static void ofEdgeOver() {
        twins.answer("28: 100 to the eighth", () -> steep(3), x -> x.ofEdge(0, 1, 1),
            10000000000000000L);
        twins.refuse("28: 100 to the 16th", () -> steep(4), x -> x.ofEdge(0, 1, 1), Due.LONG_OVER);
        twins.answer("28: 1 to any", () -> steep(8), x -> x.ofEdge(0, 1, 0), 1);
        twins.answer("28: 0 to any", () -> steep(8), x -> x.ofEdge(0, 1, 4), 0);
        twins.answer("28: 2 to the 32nd", () -> steep(5), x -> x.ofEdge(0, 2, 5), 1L << 32);
        twins.refuse("28: 2 to the 64th", () -> steep(6), x -> x.ofEdge(0, 2, 5), Due.LONG_OVER);
    }

    /** "BEYOND: rule, fold." */
    private static void ofNetBeyond() {
        for (int rule : NO_RULE) {
            twins.refuse("29: ofNet(0, " + rule + ", 0)", Due::square, x -> x.ofNet(0, rule, 0),
                Due.LONG_BEYOND);
            twins.refuse("29: BEYOND, NONE", Due::square, x -> x.ofNet(2, rule, 0),
                Due.LONG_BEYOND);
        }
        for (int fold : NO_FOLD) {
            twins.refuse("29: ofNet(0, 0, " + fold + ")", Due::square, x -> x.ofNet(0, 0, fold),
                Due.LONG_BEYOND);
            twins.refuse("29: BEYOND, NONE", MarkedSweeps::new, x -> x.ofNet(0, 0, fold),
                Due.LONG_BEYOND);
            twins.refuse("29: BEYOND, OVER", () -> steep(8), x -> x.ofNet(0, 1, fold),
                Due.LONG_BEYOND);
        }
        long[] folds = {600, 200, 100, 200};
        for (int fold = 0; fold < 4; fold++) {
            int f = fold;
            twins.answer("29: by FOLD " + f, Due::square, x -> x.ofNet(1, 1, f), folds[f]);
        }
        twins.answer("29: the last RULE, the last FOLD", Due::square, x -> x.ofNet(1, 6, 3),
            2 ^ 4 ^ 6 ^ 8 ^ 12);
    }

    /** "NONE." */
    private static void ofNetNone() {
        for (int k : NO_NET_OF_SQUARE) {
            twins.refuse("29: ofNet(" + k + ", 0, 0)", Due::square, x -> x.ofNet(k, 0, 0),
                Due.LONG_NONE);
            twins.refuse("29: NONE, OVER", () -> steep(8), x -> x.ofNet(k, 1, 0), Due.LONG_NONE);
        }
        twins.refuse("29: by MARKS", BoundsOfMeasuresTest::barredSquare, x -> x.ofNet(0, 0, 0),
            Due.LONG_NONE);
        twins.refuse("29: of two POINTS", () -> Due.points(0, 0, 3, 4), x -> x.ofNet(0, 0, 0),
            Due.LONG_NONE);
        twins.answer("29: of three", () -> Due.bow(3), x -> x.ofNet(0, 0, 0), 3);
    }

    /** "OVER": by any FOLD, if one EDGE of it is. */
    private static void ofNetOver() {
        for (int fold = 0; fold < 4; fold++) {
            int f = fold;
            twins.refuse("29: OVER by FOLD " + f, () -> steep(4), x -> x.ofNet(0, 1, f),
                Due.LONG_OVER);
        }
        twins.answer("29: the sum of ones", () -> steep(8), x -> x.ofNet(0, 0, 0), 5);
        MarkedSweeps one = Due.points(0, 0, 10, 0, 11, 11, 0, 9);
        for (int i = 0; i < 3; i++) {
            one.step(6, 0);
        }
        for (int fold = 0; fold < 4; fold++) {
            due.is("29: one EDGE is OVER", one.ofNet(0, 1, fold), Due.LONG_OVER);
            due.is("29: none is", one.ofNet(1, 1, fold) > 0 ? 1 : 0, 1);
        }
    }

    /** Three EDGES of one measure, made by STEPS from rule 0: their sum at the bound of longs. */
    private static MarkedSweeps thrice(boolean minus, int more) {
        MarkedSweeps x = Due.bow(3);
        int[][] steps = {{0, 7}, {6, 0}, {6, 0}, {6, 0}, {1, 99}, {6, 0}};
        for (int[] s : steps) {
            x.step(s[0], s[1]);
        }
        x.step(1, minus ? -1 : 1);
        x.step(0, more);
        return x;
    }

    /** "0 the sum of MEASURES of its EDGES": just a long, and just none any more. */
    private static void ofNetSum() {
        // (8^8 * 99)^2 is 2.76e18: three of them are no more than a long, four would be.
        BigInteger each = BigInteger.valueOf(16777216L * 99).pow(2);
        BigInteger all = each.multiply(BigInteger.valueOf(3));
        due.is("29: such a sum is a long", all.bitLength() <= 63 ? 1 : 0, 1);
        due.is("29: the sum", thrice(false, 0).ofNet(0, 0, 0), all.longValue());
        due.is("29: the sum below 0", thrice(true, 0).ofNet(0, 0, 0), -all.longValue());
        due.is("29: the ^ of three", thrice(true, 9).ofNet(0, 0, 3), 9 - each.longValue());
        due.is("29: the greatest", thrice(true, 9).ofNet(0, 0, 1), 9 - each.longValue());
        Supplier<MarkedSweeps> four = () -> {
            MarkedSweeps x = thrice(false, 0);
            x.place(-1, 7);
            return x;
        };
        twins.refuse("29: five are none", four, x -> x.ofNet(0, 0, 0), Due.LONG_OVER);
        twins.answer("29: the greatest of five", four, x -> x.ofNet(0, 0, 1), each.longValue());
        twins.answer("29: the least of five", four, x -> x.ofNet(0, 0, 2), each.longValue());
        twins.refuse("30: five are none", four, x -> x.best(0, 0), Due.OVER);
        twins.answer("30: the greatest of five", four, x -> x.best(0, 1), 0);
    }

    /** "BEYOND. NONE: there are none." */
    private static void bestBeyondAndNone() {
        for (int rule : NO_RULE) {
            twins.refuse("30: best(" + rule + ", 0)", Due::square, x -> x.best(rule, 0),
                Due.BEYOND);
            twins.refuse("30: BEYOND, NONE", BoundsOfMeasuresTest::barredSquare,
                x -> x.best(rule, 0), Due.BEYOND);
        }
        for (int fold : NO_FOLD) {
            twins.refuse("30: best(0, " + fold + ")", Due::square, x -> x.best(0, fold),
                Due.BEYOND);
            twins.refuse("30: BEYOND, NONE", MarkedSweeps::new, x -> x.best(0, fold), Due.BEYOND);
            twins.refuse("30: BEYOND, OVER", () -> steep(8), x -> x.best(1, fold), Due.BEYOND);
        }
        for (int points = 0; points < 3; points++) {
            int many = points;
            twins.refuse("30: of " + many, () -> Due.bow(many), x -> x.best(0, 0), Due.NONE);
        }
        twins.refuse("30: by MARKS", BoundsOfMeasuresTest::barredSquare, x -> x.best(0, 0),
            Due.NONE);
        Supplier<MarkedSweeps> noneAndOver = () -> {
            MarkedSweeps x = steep(8);
            x.mark(0, 1, 2);
            return x;
        };
        twins.refuse("30: NONE, OVER", noneAndOver, x -> x.best(1, 0), Due.NONE);
        twins.answer("30: of one NET", () -> Due.bow(3), x -> x.best(6, 3), 0);
    }

    /** "The number of the NET with the least MEASURE; of several the least." */
    private static void bestLeast() {
        for (int fold = 0; fold < 4; fold++) {
            int f = fold;
            twins.answer("30: all alike by FOLD " + f, Due::crowd, x -> x.best(0, f), 0);
        }
        twins.answer("30: the first", Due::square, x -> x.best(5, 0), 0);
        Supplier<MarkedSweeps> turned = () -> {
            MarkedSweeps x = Due.square();
            x.step(5, 0);
            return x;
        };
        twins.answer("30: the last", turned, x -> x.best(5, 0), 1);
        twins.answer("30: below 0, the first of two", turned, x -> x.best(1, 0), 0);
        MarkedSweeps lowest = Due.square();
        int[][] steps = {{0, -6}, {4, 0}, {0, -1}, {1, 99}, {1, 99}};
        for (int[] s : steps) {
            lowest.step(s[0], s[1]);
        }
        due.is("30: far below 0", lowest.best(5, 0), 0);
    }

    /** "OVER: of any": be it the last one alone. */
    private static void bestOver() {
        Supplier<MarkedSweeps> last = () -> {
            MarkedSweeps x = Due.points(0, 0, 10, 0, 9, 9, 0, 12);
            x.step(6, 0);
            x.step(6, 0);
            x.step(6, 0);
            return x;
        };
        // By rule 1 (1, 3) is 244 and all others at most 162: its eighth power alone is no long.
        twins.answer("30: the first isn't", last, x -> x.ofNet(0, 1, 1),
            BigInteger.valueOf(162).pow(8).longValueExact());
        twins.refuse("30: the last is", last, x -> x.ofNet(1, 1, 1), Due.LONG_OVER);
        twins.refuse("30: OVER", last, x -> x.best(1, 1), Due.OVER);
        twins.answer("30: by a RULE by which none is", last, x -> x.best(3, 1), 0);
        twins.refuse("30: each is", () -> steep(4), x -> x.best(1, 2), Due.OVER);
    }
}
