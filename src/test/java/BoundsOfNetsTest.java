import java.util.function.Supplier;

/** The boundary cases of promises 11 to 20, sentence by sentence. */
public final class BoundsOfNetsTest {
    private static final Due due = new Due();
    private static final Twins twins = new Twins(due);
    private static final int[] NO_NET_OF_SQUARE = {-1, -2, 2, 3, 800, Due.MOST, Due.LEAST};
    private static final int[] NO_POINT_OF_SQUARE = {-1, 4, 8, 9, Due.MOST, Due.LEAST};

    public static void main(String[] args) {
        netsFewest();
        netsMost();
        netsByMarks();
        netNone();
        rankNone();
        rankByMarks();
        withBeyond();
        alwaysBeyond();
        alwaysNone();
        drawNone();
        drawOfOne();
        fanBeyond();
        fanNone();
        flipsNone();
        flipBeyond();
        flipNone();
        apartNone();
        apartByNone();
        apartFarthest();
        due.end();
    }

    /** A square, one side of which is BARRED: no NETS, though there are POINTS enough. */
    private static MarkedSweeps barredSquare() {
        MarkedSweeps x = Due.square();
        x.mark(0, 1, 2);
        return x;
    }

    /** "How many NETS": none of fewer than three POINTS. */
    private static void netsFewest() {
        int[] catalan = {0, 0, 0, 1, 2, 5, 14, 42, 132, 429};
        for (int points = 0; points < 10; points++) {
            int many = points;
            twins.answer("11: of " + points, () -> Due.bow(many), x -> x.nets(), catalan[many]);
        }
        MarkedSweeps x = Due.bow(3);
        due.is("11: of three", x.nets(), 1);
        x.drop();
        due.is("11: of two that are left", x.nets(), 0);
        x.undo();
        due.is("11: of three again", x.nets(), 1);
    }

    /** The most that nine POINTS can have. */
    private static void netsMost() {
        twins.answer("11: the most", Due::crowd, x -> x.nets(), 780);
        MarkedSweeps x = Due.crowd();
        due.is("12: the last of the most", x.net(779) > x.net(778) ? 1 : 0, 1);
        due.is("12: one beyond", x.net(780), Due.LONG_NONE);
        due.is("13: rank of the last", x.rank(x.net(779)), 779);
        due.is("13: rank of the first", x.rank(x.net(0)), 0);
        due.is("20: from the first to the last", x.apart(0, 779) > 0 ? 1 : 0, 1);
        due.is("20: one beyond", x.apart(0, 780), Due.NONE);
        due.is("16: drawn of the most", x.draw(), ((1103515245 + 12345) >>> 8) % 780);
    }

    /** "that hold all that MUST be, none that is BARRED". */
    private static void netsByMarks() {
        twins.answer("11: a side is BARRED", BoundsOfNetsTest::barredSquare, x -> x.nets(), 0);
        MarkedSweeps x = Due.bow(9);
        due.is("11: BARRED one by one", x.mark(0, 2, 2), 0);
        due.is("11: without (0, 2)", x.nets(), 429 - 132);
        x.mark(0, 2, 1);
        due.is("11: with (0, 2)", x.nets(), 132);
        x.mark(0, 2, 0);
        due.is("11: either", x.nets(), 429);
        MarkedSweeps all = Due.bow(9);
        for (int i = 2; i < 8; i++) {
            all.mark(0, i, 1);
        }
        due.is("11: a whole NET MUST be", all.nets(), 1);
        due.is("15: it is", all.always(0), all.always(1));
        all.mark(1, 3, 2);
        due.is("11: BARRED what isn't in it", all.nets(), 1);
        all.mark(7, 8, 2);
        due.is("11: BARRED what is in it", all.nets(), 0);
    }

    /** "NONE": k is 0 to one less than there are. */
    private static void netNone() {
        for (int k : NO_NET_OF_SQUARE) {
            twins.refuse("12: net(" + k + ")", Due::square, x -> x.net(k), Due.LONG_NONE);
        }
        twins.answer("12: the first", Due::square, x -> x.net(0), 33031L);
        twins.answer("12: the last", Due::square, x -> x.net(1), 33541L);
        twins.refuse("12: of none", BoundsOfNetsTest::barredSquare, x -> x.net(0), Due.LONG_NONE);
        twins.refuse("12: of no POINTS", MarkedSweeps::new, x -> x.net(0), Due.LONG_NONE);
        twins.refuse("12: rich", Due::rich, x -> x.net(Due.rich().nets()), Due.LONG_NONE);
        MarkedSweeps fewer = Due.square();
        fewer.net(1);
        fewer.mark(0, 2, 1);
        due.is("12: of fewer than before", fewer.net(1), Due.LONG_NONE);
    }

    /** "NONE: that is none." */
    private static void rankNone() {
        long least = 33031L;
        long[] none = {0, 1, -1, least - 1, least + 1, 33541L - 1, 33541L + 1, Long.MAX_VALUE,
            Long.MIN_VALUE, least | 1L << 36, least | 1L << 63, least | 1L << 35, least & ~1L,
            least | 33541L, least & 33541L, least | 1L << 3, Due.LONG_NONE, least | 1L << 32};
        for (long net : none) {
            twins.refuse("13: rank(" + net + ")", Due::square, x -> x.rank(net), Due.NONE);
        }
        twins.answer("13: the first", Due::square, x -> x.rank(least), 0);
        twins.answer("13: the last", Due::square, x -> x.rank(33541L), 1);
        twins.refuse("13: of no POINTS", MarkedSweeps::new, x -> x.rank(0), Due.NONE);
        MarkedSweeps bow = Due.bow(9);
        long last = bow.net(428);
        due.is("13: the last of nine", bow.rank(last), 428);
        due.is("13: its lowest bits alone", bow.rank((int) last), Due.NONE);
    }

    /** Sets that are none by MARKS alone. */
    private static void rankByMarks() {
        twins.refuse("13: BARRED", BoundsOfNetsTest::barredSquare, x -> x.rank(33031L), Due.NONE);
        Supplier<MarkedSweeps> must = () -> {
            MarkedSweeps x = Due.square();
            x.mark(1, 3, 1);
            return x;
        };
        twins.refuse("13: without what MUST be", must, x -> x.rank(33031L), Due.NONE);
        twins.answer("13: with what MUST be", must, x -> x.rank(33541L), 0);
    }

    /** "BEYOND." */
    private static void withBeyond() {
        for (int i : NO_POINT_OF_SQUARE) {
            twins.refuse("14: with(" + i + ", 0)", Due::square, x -> x.with(i, 0), Due.BEYOND);
            twins.refuse("14: with(0, " + i + ")", Due::square, x -> x.with(0, i), Due.BEYOND);
        }
        twins.refuse("14: no EDGE", Due::square, x -> x.with(2, 2), Due.BEYOND);
        twins.refuse("14: of one POINT", () -> Due.points(1, 1), x -> x.with(0, 1), Due.BEYOND);
        twins.answer("14: in all", Due::square, x -> x.with(3, 0), 2);
        twins.answer("14: in one", Due::square, x -> x.with(1, 3), 1);
        twins.answer("14: no NETS", BoundsOfNetsTest::barredSquare, x -> x.with(1, 3), 0);
        twins.answer("14: of two POINTS", () -> Due.points(1, 1, 2, 3), x -> x.with(0, 1), 0);
        twins.answer("14: the last EDGE", () -> Due.bow(9), x -> x.with(8, 7), 429);
        twins.answer("14: a BARRED one", Due::rich, x -> x.with(1, 3), 0);
        twins.answer("14: one that MUST be", Due::rich, x -> x.with(0, 4), Due.rich().nets());
    }

    /** "BEYOND": what is 0, 1. */
    private static void alwaysBeyond() {
        int[] beyond = {-1, 2, Due.MOST, Due.LEAST};
        for (int what : beyond) {
            twins.refuse("15: always(" + what + ")", Due::square, x -> x.always(what),
                Due.LONG_BEYOND);
            twins.refuse("15: BEYOND, NONE", MarkedSweeps::new, x -> x.always(what),
                Due.LONG_BEYOND);
        }
        twins.answer("15: in all", Due::square, x -> x.always(0), 33031L & 33541L);
        twins.answer("15: in any", Due::square, x -> x.always(1), 33031L | 33541L);
        twins.answer("15: of one NET", () -> Due.bow(3), x -> x.always(0), 259);
        twins.answer("15: of one NET", () -> Due.bow(3), x -> x.always(1), 259);
    }

    /** "NONE: there are no NETS." */
    private static void alwaysNone() {
        for (int what = 0; what < 2; what++) {
            int w = what;
            for (int points = 0; points < 3; points++) {
                int many = points;
                twins.refuse("15: of " + many, () -> Due.bow(many), x -> x.always(w),
                    Due.LONG_NONE);
            }
            twins.refuse("15: by MARKS", BoundsOfNetsTest::barredSquare, x -> x.always(w),
                Due.LONG_NONE);
        }
    }

    /** "NONE: there are none (nothing is drawn)." */
    private static void drawNone() {
        for (int points = 0; points < 3; points++) {
            int many = points;
            twins.refuse("16: of " + many, () -> Due.bow(many), x -> x.draw(), Due.NONE);
        }
        twins.refuse("16: by MARKS", BoundsOfNetsTest::barredSquare, x -> x.draw(), Due.NONE);
        MarkedSweeps x = barredSquare();
        x.seed(-5);
        x.draw();
        x.draw();
        due.is("16: z is as it was", x.count(3), -5);
    }

    /** With one NET the rest is always 0, and yet it is drawn. */
    private static void drawOfOne() {
        MarkedSweeps x = Due.bow(3);
        int z = 1;
        for (int i = 0; i < 20; i++) {
            due.is("16: of one NET", x.draw(), 0);
            z = z * 1103515245 + 12345;
            due.is("16: z", x.count(3), z);
        }
        due.is("16: no CHANGE", x.count(2), 3);
    }

    /** "BEYOND: no such POINT." */
    private static void fanBeyond() {
        for (int i : NO_POINT_OF_SQUARE) {
            twins.refuse("17: fan(0, " + i + ")", Due::square, x -> x.fan(0, i), Due.BEYOND);
            twins.refuse("17: BEYOND, NONE", Due::square, x -> x.fan(2, i), Due.BEYOND);
        }
        twins.refuse("17: of no POINTS", MarkedSweeps::new, x -> x.fan(0, 0), Due.BEYOND);
    }

    /** "NONE: no such NET." */
    private static void fanNone() {
        for (int k : NO_NET_OF_SQUARE) {
            twins.refuse("17: fan(" + k + ", 0)", Due::square, x -> x.fan(k, 0), Due.NONE);
        }
        twins.refuse("17: of one POINT", () -> Due.points(1, 1), x -> x.fan(0, 0), Due.NONE);
        twins.refuse("17: by MARKS", BoundsOfNetsTest::barredSquare, x -> x.fan(0, 3), Due.NONE);
        twins.answer("17: the fewest", Due::square, x -> x.fan(0, 1), 1);
        twins.answer("17: the last of both", Due::square, x -> x.fan(1, 3), 2);
        Supplier<MarkedSweeps> fan = () -> {
            MarkedSweeps x = Due.bow(9);
            for (int i = 2; i < 8; i++) {
                x.mark(0, i, 1);
            }
            return x;
        };
        twins.answer("17: the most at a corner", fan, x -> x.fan(0, 0), 7);
        twins.answer("17: the fewest there", fan, x -> x.fan(0, 8), 1);
        int sum = 0;
        MarkedSweeps tent = Due.tent();
        for (int i = 0; i < 9; i++) {
            sum += tent.fan(0, i);
        }
        due.is("17: each of 13 TRIANGLES has three", sum, 39);
    }

    /** "NONE." */
    private static void flipsNone() {
        for (int k : NO_NET_OF_SQUARE) {
            twins.refuse("18: flips(" + k + ")", Due::square, x -> x.flips(k), Due.LONG_NONE);
        }
        twins.refuse("18: by MARKS", BoundsOfNetsTest::barredSquare, x -> x.flips(0),
            Due.LONG_NONE);
        twins.refuse("18: of no POINTS", MarkedSweeps::new, x -> x.flips(0), Due.LONG_NONE);
        twins.answer("18: none of three", () -> Due.bow(3), x -> x.flips(0), 0);
        twins.answer("18: of the first", Due::square, x -> x.flips(0), Due.edge(0, 2));
        twins.answer("18: of the last", Due::square, x -> x.flips(1), Due.edge(1, 3));
        MarkedSweeps bow = Due.bow(9);
        for (int k = 0; k < 429; k++) {
            due.is("18: each inner one of a bow", Long.bitCount(bow.flips(k)), 6);
        }
    }

    /** "BEYOND: POINTS." */
    private static void flipBeyond() {
        for (int i : NO_POINT_OF_SQUARE) {
            twins.refuse("19: flip(0, " + i + ", 2)", Due::square, x -> x.flip(0, i, 2),
                Due.BEYOND);
            twins.refuse("19: flip(0, 0, " + i + ")", Due::square, x -> x.flip(0, 0, i),
                Due.BEYOND);
            twins.refuse("19: BEYOND, NONE", Due::square, x -> x.flip(2, 0, i), Due.BEYOND);
        }
        twins.refuse("19: of no POINTS", MarkedSweeps::new, x -> x.flip(0, 0, 1), Due.BEYOND);
    }

    /** "NONE: no such NET, or it can't be." */
    private static void flipNone() {
        for (int k : NO_NET_OF_SQUARE) {
            twins.refuse("19: flip(" + k + ", 0, 2)", Due::square, x -> x.flip(k, 0, 2), Due.NONE);
        }
        int[][] sides = {{0, 1}, {1, 2}, {2, 3}, {3, 0}};
        for (int[] s : sides) {
            twins.refuse("19: a side", Due::square, x -> x.flip(0, s[0], s[1]), Due.NONE);
        }
        twins.refuse("19: one that it lacks", Due::square, x -> x.flip(0, 1, 3), Due.NONE);
        twins.refuse("19: by MARKS", BoundsOfNetsTest::barredSquare, x -> x.flip(0, 0, 2),
            Due.NONE);
        twins.refuse("19: of two POINTS", () -> Due.points(0, 0, 1, 5), x -> x.flip(0, 0, 1),
            Due.NONE);
        twins.refuse("19: dented", () -> Due.points(0, 0, 10, 0, 3, 10, 4, 3),
            x -> x.flip(0, 0, 3), Due.NONE);
        twins.answer("19: to the last", Due::square, x -> x.flip(0, 0, 2), 1);
        twins.answer("19: to the first", Due::square, x -> x.flip(1, 1, 3), 0);
    }

    /** "NONE: no such NET". */
    private static void apartNone() {
        for (int k : NO_NET_OF_SQUARE) {
            twins.refuse("20: apart(" + k + ", 0)", Due::square, x -> x.apart(k, 0), Due.NONE);
            twins.refuse("20: apart(0, " + k + ")", Due::square, x -> x.apart(0, k), Due.NONE);
            twins.refuse("20: both", Due::square, x -> x.apart(k, k), Due.NONE);
        }
        twins.refuse("20: by MARKS", BoundsOfNetsTest::barredSquare, x -> x.apart(0, 0), Due.NONE);
        twins.refuse("20: of no POINTS", MarkedSweeps::new, x -> x.apart(0, 0), Due.NONE);
        twins.answer("20: one FLIP", Due::square, x -> x.apart(0, 1), 1);
        twins.answer("20: no FLIP", Due::square, x -> x.apart(1, 1), 0);
        twins.answer("20: of one NET", () -> Due.bow(3), x -> x.apart(0, 0), 0);
    }

    /** ".. or by none." */
    private static void apartByNone() {
        Supplier<MarkedSweeps> made = () -> {
            MarkedSweeps x = Due.bow(6);
            x.mark(0, 3, 2);
            x.mark(1, 4, 2);
            x.mark(2, 5, 2);
            return x;
        };
        twins.answer("20: the two inner triangles", made, x -> x.nets(), 2);
        twins.refuse("20: by none", made, x -> x.apart(0, 1), Due.NONE);
        twins.refuse("20: by none, back", made, x -> x.apart(1, 0), Due.NONE);
        twins.answer("20: to itself", made, x -> x.apart(0, 0), 0);
        MarkedSweeps x = made.get();
        long first = x.net(0);
        long last = x.net(1);
        for (int i = 0; i < 3; i++) {
            x.undo();
        }
        due.is("20: without MARKS", x.apart(x.rank(first), x.rank(last)), 4);
    }

    /** "The fewest FLIPS": all of them from one side of a bow to the other. */
    private static void apartFarthest() {
        MarkedSweeps x = Due.bow(6);
        int farthest = 0;
        for (int k = 0; k < 14; k++) {
            for (int l = 0; l < 14; l++) {
                farthest = Math.max(farthest, x.apart(k, l));
            }
        }
        due.is("20: the farthest of six", farthest, 4);
        MarkedSweeps nine = Due.bow(9);
        farthest = 0;
        for (int l = 0; l < 429; l++) {
            farthest = Math.max(farthest, nine.apart(l, 214));
        }
        due.is("20: never farther than nine can be", farthest <= 9 && farthest > 5 ? 1 : 0, 1);
    }
}
