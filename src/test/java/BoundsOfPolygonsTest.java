import java.util.function.Supplier;
import java.util.function.ToLongFunction;

/** The boundary cases of promises 31 to 34, sentence by sentence. */
public final class BoundsOfPolygonsTest {
    private static final Due due = new Due();
    private static final Twins twins = new Twins(due);

    public static void main(String[] args) {
        beyond();
        missing();
        tooFew();
        noPoints();
        twice();
        crossing();
        sorts();
        splitsFewestAndMost();
        splitsAlone();
        splitsDented();
        areas();
        withins();
        emptyBeyond();
        emptyFewAndMany();
        emptyWithin();
        due.end();
    }

    /** All three that ask for a POLYGON refuse it alike. */
    private static void refuse(String name, Supplier<MarkedSweeps> made, int s, int finding) {
        twins.refuse("31: " + name, made, x -> x.splits(s), finding);
        twins.refuse("32: " + name, made, x -> x.area(s), finding);
        twins.refuse("33: " + name, made, x -> x.within(s), finding);
    }

    private static Supplier<MarkedSweeps> laid(Supplier<MarkedSweeps> made, int sort,
            long... numbers) {
        return () -> {
            MarkedSweeps x = made.get();
            Due.lay(x, 3, sort, numbers);
            return x;
        };
    }

    private static void answer(String name, Supplier<MarkedSweeps> made, int splits, int area,
            int within) {
        ToLongFunction<MarkedSweeps> ways = x -> x.splits(3);
        twins.answer("31: " + name, made, ways, splits);
        twins.answer("32: " + name, made, x -> x.area(3), area);
        twins.answer("33: " + name, made, x -> x.within(3), within);
    }

    /** "BEYOND: no such SHEET": 0 to 3. */
    private static void beyond() {
        int[] none = {-1, 4, 5, Due.MOST, Due.LEAST};
        for (int s : none) {
            refuse("no SHEET " + s, Due::rich, s, Due.BEYOND);
            refuse("no SHEET " + s + " of none", MarkedSweeps::new, s, Due.BEYOND);
        }
        for (int s = 0; s < 4; s++) {
            MarkedSweeps x = Due.square();
            Due.lay(x, s, 0, 0, 1, 2);
            due.is("31: SHEET " + s, x.splits(s), 1);
            due.is("32: SHEET " + s, x.area(s), 100);
            due.is("33: SHEET " + s, x.within(s), 0);
        }
    }

    /** "MISSING": at first, and again. */
    private static void missing() {
        for (int s = 0; s < 4; s++) {
            refuse("SHEET " + s + " at first", Due::square, s, Due.MISSING);
        }
        refuse("rich", Due::rich, 3, Due.MISSING);
        Supplier<MarkedSweeps> again = () -> {
            MarkedSweeps x = Due.square();
            Due.lay(x, 2, 0, 0, 1, 2);
            x.sheet(2, -1, 0);
            return x;
        };
        refuse("MISSING again", again, 2, Due.MISSING);
    }

    /** "STATE: it is no POLYGON": "3 or more". */
    private static void tooFew() {
        refuse("of 0", laid(Due::square, 0), 3, Due.STATE);
        refuse("of 1", laid(Due::square, 0, 0), 3, Due.STATE);
        refuse("of 2", laid(Due::square, 0, 0, 1), 3, Due.STATE);
        answer("of 3", laid(Due::square, 0, 0, 1, 2), 1, 100, 0);
        answer("of all 4", laid(Due::square, 0, 0, 1, 2, 3), 2, 200, 0);
        long[] nine = {0, 1, 2, 3, 4, 5, 6, 7, 8};
        answer("of all 9", laid(() -> Due.bow(9), 0, nine), 429, 168, 0);
        refuse("of 10", laid(() -> Due.bow(9), 0, 0, 1, 2, 3, 4, 5, 6, 7, 8, 0), 3, Due.STATE);
        refuse("of 40", laid(() -> Due.bow(9), 0, new long[40]), 3, Due.STATE);
        long[] forty = new long[40];
        for (int i = 0; i < 40; i++) {
            forty[i] = i;
        }
        refuse("of 40 unlike", laid(() -> Due.bow(9), 2, forty), 3, Due.STATE);
    }

    /** ".. are POINTS". */
    private static void noPoints() {
        long[] none = {-1, 4, 5, 8, 9, 127, -128};
        for (long v : none) {
            for (int at = 0; at < 3; at++) {
                long[] row = {0, 1, 2};
                row[at] = v;
                refuse("with " + v, laid(Due::square, 0, row), 3, Due.STATE);
            }
        }
        long[] far = {Long.MAX_VALUE, Long.MIN_VALUE, 1L << 32 | 3, 1L << 32, -1L << 32, 256};
        for (long v : far) {
            refuse("with " + v, laid(Due::square, 2, 0, 1, v), 3, Due.STATE);
            refuse("first " + v, laid(Due::square, 2, v, 1, 2), 3, Due.STATE);
        }
        refuse("of no POINTS", laid(MarkedSweeps::new, 0, 0, 1, 2), 3, Due.STATE);
        refuse("of two POINTS", laid(() -> Due.bow(2), 0, 0, 1, 2), 3, Due.STATE);
        answer("of three POINTS", laid(() -> Due.bow(3), 0, 0, 1, 2), 1, 2, 0);
        MarkedSweeps gone = laid(Due::square, 0, 1, 2, 3).get();
        due.is("31: there", gone.splits(3), 1);
        gone.drop();
        due.is("31: the last POINT goes", gone.splits(3), Due.STATE);
        gone.undo();
        due.is("31: and comes again", gone.splits(3), 1);
    }

    /** ".. each once at most". */
    private static void twice() {
        long[][] rows = {{0, 0, 1}, {0, 1, 0}, {1, 0, 0}, {0, 1, 2, 0}, {0, 1, 2, 2}, {3, 3, 3},
            {0, 1, 0, 2}};
        for (long[] row : rows) {
            refuse("twice", laid(Due::square, 1, row), 3, Due.STATE);
        }
    }

    /** "joined in turn, the last to the first, by SIDES of which no two CROSS". */
    private static void crossing() {
        refuse("two SIDES", laid(Due::square, 0, 0, 2, 1, 3), 3, Due.STATE);
        refuse("the last SIDE", laid(Due::square, 0, 0, 1, 3, 2), 3, Due.STATE);
        refuse("the last but one", laid(Due::square, 0, 2, 0, 1, 3), 3, Due.STATE);
        refuse("of nine", laid(() -> Due.bow(9), 0, 0, 1, 2, 3, 4, 5, 6, 8, 7), 3, Due.STATE);
        MarkedSweeps x = laid(() -> Due.points(0, 0, 10, 0, 10, 10, 4, 3), 0, 0, 1, 2, 3).get();
        due.is("31: dented", x.splits(3), 1);
        x.move(3, 5, -1);
        due.is("31: moved across a SIDE", x.splits(3), Due.STATE);
        x.undo();
        due.is("31: and back", x.splits(3), 1);
    }

    /** Rows of bytes, ints, longs: their lowest bits are what counts. */
    private static void sorts() {
        answer("bytes, 256 is 0", laid(Due::square, 0, 256, 257, 514), 1, 100, 0);
        refuse("ints, 256 is 256", laid(Due::square, 1, 256, 1, 2), 3, Due.STATE);
        answer("ints, 1 << 32 is 0", laid(Due::square, 1, 1L << 32, 1, 2), 1, 100, 0);
        refuse("longs, 1 << 32 is that", laid(Due::square, 2, 1L << 32, 1, 2), 3, Due.STATE);
        answer("longs", laid(Due::square, 2, 0, 1, 2), 1, 100, 0);
    }

    /** "How many SPLITS": one of three (none can be added), 429 of nine. */
    private static void splitsFewestAndMost() {
        int[] catalan = {0, 0, 0, 1, 2, 5, 14, 42, 132, 429};
        for (int n = 3; n <= 9; n++) {
            int many = n;
            long[] row = new long[n];
            long[] back = new long[n];
            for (int i = 0; i < n; i++) {
                row[i] = i;
                back[i] = (2 * n - 1 - i + 2) % n;
            }
            twins.answer("31: of " + n, laid(() -> Due.bow(many), 0, row), x -> x.splits(3),
                catalan[n]);
            twins.answer("31: the other way round", laid(() -> Due.bow(many), 2, back),
                x -> x.splits(3), catalan[n]);
        }
    }

    /** "(other POINTS, MARKS don't matter)". */
    private static void splitsAlone() {
        Supplier<MarkedSweeps> made = laid(() -> {
            MarkedSweeps x = Due.square();
            x.place(7, 4);
            x.mark(0, 2, 2);
            x.mark(1, 3, 2);
            x.mark(0, 1, 2);
            return x;
        }, 0, 0, 1, 2, 3);
        answer("another POINT within, all BARRED", made, 2, 200, 1 << 4);
        Supplier<MarkedSweeps> must = laid(() -> {
            MarkedSweeps x = Due.square();
            x.mark(0, 2, 1);
            return x;
        }, 0, 0, 1, 2, 3);
        answer("one MUST be", must, 2, 200, 0);
        answer("others MUST be", laid(() -> {
            MarkedSweeps x = Due.bow(6);
            x.mark(1, 4, 1);
            return x;
        }, 0, 0, 2, 3, 5), 2, 36, 0);
    }

    /** "EDGES between its POINTS that run inside it". */
    private static void splitsDented() {
        Supplier<MarkedSweeps> dart =
            laid(() -> Due.points(0, 0, 10, 0, 4, 3, 0, 10), 0, 0, 1, 2, 3);
        answer("a dart: the outer one doesn't", dart, 1, 70, 0);
        Supplier<MarkedSweeps> hidden = laid(
            () -> Due.points(0, 0, 20, 1, 19, 12, 10, 3, 1, 11, 9, 9), 0, 0, 1, 2, 3, 4);
        answer("one alone", hidden, 1, 265, 0);
    }

    /** "Twice the area": at its least and greatest, and either way round. */
    private static void areas() {
        Supplier<MarkedSweeps> wide = () -> Due.points(-99, -99, 99, -99, 99, 99, -99, 99);
        answer("the widest", laid(wide, 0, 0, 1, 2, 3), 2, 78408, 0);
        answer("the widest, the other way round", laid(wide, 0, 3, 2, 1, 0), 2, 78408, 0);
        answer("the slimmest", laid(() -> Due.points(-99, -99, 99, 98, 98, 97), 0, 0, 1, 2), 1, 1,
            0);
        answer("the slimmest, the other way round",
            laid(() -> Due.points(-99, -99, 99, 98, 98, 97), 0, 2, 1, 0), 1, 1, 0);
    }

    /** "POINTS that are WITHIN": just inside, just outside; never its own; all six at most. */
    private static void withins() {
        for (int off = 1; off < 10; off += 4) {
            int d = off;
            answer("just inside a side",
                laid(() -> Due.points(0, 0, 20, 0, 20, 20, 0, 20, d, 1), 0, 0, 1, 2, 3), 2, 800,
                d == 1 ? 0 : 16);
            answer("just outside a side",
                laid(() -> Due.points(0, 0, 20, 0, 20, 20, 0, 20, d, -1), 0, 0, 1, 2, 3), 2, 800,
                0);
        }
        twins.answer("33: six of nine", laid(Due::tent, 0, 0, 1, 2), x -> x.within(3), 504);
        twins.answer("33: the other way round", laid(Due::tent, 0, 2, 1, 0), x -> x.within(3), 504);
        Supplier<MarkedSweeps> level = laid(
            () -> Due.points(-10, 0, 0, -10, 11, 0, 1, 10, -30, 1, 5, 3), 0, 0, 1, 2, 3);
        twins.answer("33: left of it", level, x -> x.within(3), 32);
        Supplier<MarkedSweeps> corner = laid(
            () -> Due.points(-10, 3, 0, -10, 11, 4, 1, 10, -30, 4, -5, 3), 0, 0, 1, 2, 3);
        twins.answer("33: as high as a corner", corner, x -> x.within(3), 32);
        twins.answer("33: in the dent",
            laid(() -> Due.points(0, 0, 10, 0, 4, 3, 0, 10, 5, 4, 3, 1), 0, 0, 1, 2, 3),
            x -> x.within(3), 32);
    }

    /** "k (3 to 6)". "BEYOND." */
    private static void emptyBeyond() {
        int[] beyond = {2, 7, 1, 0, -1, 8, 9, Due.MOST, Due.LEAST};
        for (int k : beyond) {
            twins.refuse("34: empty(" + k + ")", () -> Due.bow(9), x -> x.empty(k), Due.BEYOND);
            twins.refuse("34: empty(" + k + ") of none", MarkedSweeps::new, x -> x.empty(k),
                Due.BEYOND);
        }
    }

    /** Fewer POINTS than k, as many, one more, nine. */
    private static void emptyFewAndMany() {
        for (int k = 3; k <= 6; k++) {
            int j = k;
            twins.answer("34: of none", MarkedSweeps::new, x -> x.empty(j), 0);
            twins.answer("34: of fewer", () -> Due.bow(j - 1), x -> x.empty(j), 0);
            twins.answer("34: of as many", () -> Due.bow(j), x -> x.empty(j), 1);
            twins.answer("34: of one more", () -> Due.bow(j + 1), x -> x.empty(j), j + 1);
        }
        int[] ofNine = {84, 126, 126, 84};
        for (int k = 3; k <= 6; k++) {
            int j = k;
            twins.answer("34: of nine", () -> Due.bow(9), x -> x.empty(j), ofNine[j - 3]);
        }
    }

    /** "of which none is WITHIN three others of them, nor any other POINT WITHIN three of them". */
    private static void emptyWithin() {
        Supplier<MarkedSweeps> one = () -> Due.points(0, 0, 10, 0, 3, 10, 4, 3);
        twins.answer("34: another WITHIN three of them", one, x -> x.empty(3), 3);
        twins.answer("34: one of them WITHIN three others", one, x -> x.empty(4), 0);
        Supplier<MarkedSweeps> out = () -> Due.points(0, 0, 10, 0, 3, 10, 4, -1);
        twins.answer("34: just outside, 3", out, x -> x.empty(3), 4);
        twins.answer("34: just outside, 4", out, x -> x.empty(4), 1);
        Supplier<MarkedSweeps> six = () -> {
            MarkedSweeps x = Due.bow(6);
            x.place(-1, 6);
            return x;
        };
        // Only without one of the two ends of the bow the seventh lies outside the others.
        twins.answer("34: six around one", six, x -> x.empty(6), 2);
    }
}
