import java.util.function.Supplier;

/** The boundary cases of promises 21 to 23 and 35 to 38, sentence by sentence. */
public final class BoundsOfSweepsTest {
    private static final Due due = new Due();
    private static final Twins twins = new Twins(due);
    private static final int[] NO_NET_OF_SQUARE = {-1, -2, 2, 3, 800, Due.MOST, Due.LEAST};

    public static void main(String[] args) {
        pathNoNet();
        pathNotAsMany();
        pathMostAdvances();
        advanceBeyond();
        advanceNone();
        waysFewest();
        waysBarred();
        proveNone();
        proveFewestAndMost();
        proveAnew();
        rowBeyond();
        alterBeyond();
        alterAny();
        judgeNone();
        judgeFirst();
        judgeLacksOrTooMany();
        rowsStay();
        due.end();
    }

    private static MarkedSweeps barredSquare() {
        MarkedSweeps x = Due.square();
        x.prove(1);
        x.mark(0, 1, 2);
        return x;
    }

    private static MarkedSweeps proven() {
        MarkedSweeps x = Due.square();
        x.prove(0);
        return x;
    }

    /** "NONE: no such NET". */
    private static void pathNoNet() {
        for (int k : NO_NET_OF_SQUARE) {
            twins.refuse("21: path(" + k + ", 0)", Due::square, x -> x.path(k, 0), Due.NONE);
        }
        twins.refuse("21: by MARKS", BoundsOfSweepsTest::barredSquare, x -> x.path(0, 0), Due.NONE);
        for (int points = 0; points < 3; points++) {
            int many = points;
            twins.refuse("21: of " + many, () -> Due.bow(many), x -> x.path(0, 0), Due.NONE);
        }
    }

    /** ".. or it hasn't as many": behind 0 ADVANCES up to behind all of them. */
    private static void pathNotAsMany() {
        int[] beyond = {-1, 3, 4, 13, 14, Due.MOST, Due.LEAST};
        for (int t : beyond) {
            twins.refuse("21: path(0, " + t + ")", Due::square, x -> x.path(0, t), Due.NONE);
            twins.refuse("21: path(1, " + t + ")", Due::square, x -> x.path(1, t), Due.NONE);
        }
        int[][] paths = {{7, 5, 13}, {7, 15, 13}};
        for (int t = 0; t < 3; t++) {
            int u = t;
            twins.answer("21: path(0, " + t + ")", Due::square, x -> x.path(0, u), paths[0][u]);
            twins.answer("21: path(1, " + t + ")", Due::square, x -> x.path(1, u), paths[1][u]);
        }
        twins.answer("21: of one TRIANGLE", () -> Due.bow(3), x -> x.path(0, 0), 7);
        twins.answer("21: of one TRIANGLE", () -> Due.bow(3), x -> x.path(0, 1), 5);
        twins.refuse("21: of one TRIANGLE", () -> Due.bow(3), x -> x.path(0, 2), Due.NONE);
    }

    /** As many ADVANCES as nine POINTS can need, and as few. */
    private static void pathMostAdvances() {
        twins.answer("21: behind 13", Due::tent, x -> x.path(0, 13), 7);
        twins.refuse("21: behind 14", Due::tent, x -> x.path(0, 14), Due.NONE);
        int last = Due.tent().nets() - 1;
        twins.answer("21: behind 13, the last NET", Due::tent, x -> x.path(last, 13), 7);
        twins.refuse("21: behind 14, the last NET", Due::tent, x -> x.path(last, 14), Due.NONE);
        twins.answer("21: of a bow, behind 7", () -> Due.bow(9), x -> x.path(0, 7), 257);
        twins.refuse("21: of a bow, behind 8", () -> Due.bow(9), x -> x.path(0, 8), Due.NONE);
    }

    /** "BEYOND: what." */
    private static void advanceBeyond() {
        int[] beyond = {-1, 2, Due.MOST, Due.LEAST};
        for (int what : beyond) {
            twins.refuse("22: advance(0, 0, " + what + ")", Due::square,
                x -> x.advance(0, 0, what), Due.BEYOND);
            twins.refuse("22: BEYOND, no such NET", Due::square, x -> x.advance(2, 0, what),
                Due.BEYOND);
            twins.refuse("22: BEYOND, no such ADVANCE", Due::square, x -> x.advance(0, 2, what),
                Due.BEYOND);
        }
    }

    /** "NONE: no such NET, ADVANCE." */
    private static void advanceNone() {
        for (int what = 0; what < 2; what++) {
            int w = what;
            for (int k : NO_NET_OF_SQUARE) {
                twins.refuse("22: advance(" + k + ", 0, " + w + ")", Due::square,
                    x -> x.advance(k, 0, w), Due.NONE);
            }
            int[] beyond = {-1, 2, 3, 13, Due.MOST, Due.LEAST};
            for (int t : beyond) {
                twins.refuse("22: advance(0, " + t + ", " + w + ")", Due::square,
                    x -> x.advance(0, t, w), Due.NONE);
            }
            twins.refuse("22: by MARKS", BoundsOfSweepsTest::barredSquare,
                x -> x.advance(0, 0, w), Due.NONE);
            twins.refuse("22: the 14th of a tent", Due::tent, x -> x.advance(0, 13, w), Due.NONE);
        }
        int[][] all = {{7, 1}, {13, 0}};
        for (int t = 0; t < 2; t++) {
            int u = t;
            twins.answer("22: its POINTS", Due::square, x -> x.advance(0, u, 0), all[u][0]);
            twins.answer("22: its sort", Due::square, x -> x.advance(0, u, 1), all[u][1]);
        }
        MarkedSweeps tent = Due.tent();
        due.is("22: the 13th of a tent", Integer.bitCount(tent.advance(0, 12, 0)), 3);
        due.is("22: its sort", tent.advance(0, 12, 1) >> 1, 0);
    }

    /** "How many WAYS (0 with fewer than 2 POINTS)." */
    private static void waysFewest() {
        int[] many = {0, 0, 1, 2, 4, 8, 16, 32, 64, 128};
        for (int points = 0; points < 10; points++) {
            int n = points;
            twins.answer("23: of " + n, () -> Due.bow(n), x -> x.ways(), many[n]);
        }
        twins.answer("23: of a tent", Due::tent, x -> x.ways(), 128);
    }

    /** ".. make EDGES that aren't BARRED". */
    private static void waysBarred() {
        MarkedSweeps two = Due.points(3, 1, 3, 0);
        two.mark(0, 1, 1);
        due.is("23: of two, MUST", two.ways(), 1);
        two.mark(0, 1, 2);
        due.is("23: of two, BARRED", two.ways(), 0);
        MarkedSweeps x = Due.bow(9);
        x.mark(0, 8, 2);
        due.is("23: all but the straight one", x.ways(), 127);
        for (int i = 0; i < 8; i++) {
            x.mark(i, i + 1, 2);
        }
        due.is("23: no two that are next", x.ways(), 12);
        for (int i = 1; i < 8; i++) {
            x.mark(i, 8, 2);
        }
        due.is("23: none comes to the last", x.ways(), 0);
    }

    /** "NONE", and ROWS stay. */
    private static void proveNone() {
        for (int k : NO_NET_OF_SQUARE) {
            twins.refuse("35: prove(" + k + ")", BoundsOfSweepsTest::proven, x -> x.prove(k),
                Due.NONE);
        }
        twins.refuse("35: by MARKS", BoundsOfSweepsTest::barredSquare, x -> x.prove(0), Due.NONE);
        twins.refuse("35: of no POINTS", MarkedSweeps::new, x -> x.prove(0), Due.NONE);
        MarkedSweeps x = Due.rich();
        x.prove(x.nets());
        due.is("35: altered ROWS stay", x.row(1, 1), 9);
    }

    /** "how many". */
    private static void proveFewestAndMost() {
        MarkedSweeps three = Due.bow(3);
        due.is("35: one", three.prove(0), 1);
        due.is("35: one ROW", three.count(4), 1);
        due.is("35: its POINTS", three.row(0, 0), 7);
        due.is("35: its sort", three.row(0, 1), 1);
        MarkedSweeps tent = Due.tent();
        due.is("35: thirteen", tent.prove(0), 13);
        due.is("35: thirteen ROWS", tent.count(4), 13);
        for (int i = 0; i < 13; i++) {
            due.is("35: POINTS of " + i, tent.row(i, 0), tent.advance(0, i, 0));
            due.is("35: sort of " + i, tent.row(i, 1), tent.advance(0, i, 1));
        }
    }

    /** "ROWS OF ADVANCES become": fewer than there were, and more. */
    private static void proveAnew() {
        MarkedSweeps x = Due.tent();
        x.prove(0);
        for (int i = 0; i < 6; i++) {
            x.drop();
        }
        due.is("35: fewer", x.prove(0), 1);
        due.is("35: count(4)", x.count(4), 1);
        due.is("36: the others are gone", x.row(1, 0), Due.BEYOND);
        for (int i = 0; i < 6; i++) {
            x.undo();
        }
        due.is("35: more", x.prove(0), 13);
        due.is("36: the last", x.row(12, 0), x.advance(0, 12, 0));
    }

    /** "BEYOND". */
    private static void rowBeyond() {
        int[] beyond = {-1, 2, 3, 12, 13, Due.MOST, Due.LEAST};
        for (int i : beyond) {
            twins.refuse("36: row(" + i + ", 0)", BoundsOfSweepsTest::proven, x -> x.row(i, 0),
                Due.BEYOND);
            twins.refuse("36: row(" + i + ", 1)", BoundsOfSweepsTest::proven, x -> x.row(i, 1),
                Due.BEYOND);
        }
        int[] whats = {-1, 2, Due.MOST, Due.LEAST};
        for (int what : whats) {
            twins.refuse("36: row(0, " + what + ")", BoundsOfSweepsTest::proven,
                x -> x.row(0, what), Due.BEYOND);
        }
        twins.refuse("36: none at first", Due::square, x -> x.row(0, 0), Due.BEYOND);
        twins.answer("36: the first", BoundsOfSweepsTest::proven, x -> x.row(0, 0), 7);
        twins.answer("36: the last", BoundsOfSweepsTest::proven, x -> x.row(1, 1), 0);
        Supplier<MarkedSweeps> most = () -> {
            MarkedSweeps x = Due.tent();
            x.prove(0);
            return x;
        };
        int last = Due.tent().advance(0, 12, 0);
        twins.answer("36: the 13th", most, x -> x.row(12, 0), last);
        twins.refuse("36: the 14th", most, x -> x.row(13, 0), Due.BEYOND);
    }

    /** "BEYOND". */
    private static void alterBeyond() {
        int[] beyond = {-1, 2, 3, 12, 13, Due.MOST, Due.LEAST};
        for (int i : beyond) {
            twins.refuse("37: alter(" + i + ", 0, 5)", BoundsOfSweepsTest::proven,
                x -> x.alter(i, 0, 5), Due.BEYOND);
            twins.refuse("37: alter(" + i + ", 1, 5)", BoundsOfSweepsTest::proven,
                x -> x.alter(i, 1, 5), Due.BEYOND);
        }
        int[] whats = {-1, 2, Due.MOST, Due.LEAST};
        for (int what : whats) {
            twins.refuse("37: alter(0, " + what + ", 5)", BoundsOfSweepsTest::proven,
                x -> x.alter(0, what, 5), Due.BEYOND);
        }
        twins.refuse("37: none at first", Due::square, x -> x.alter(0, 0, 0), Due.BEYOND);
    }

    /** "It becomes v: what it was": any int, and that alone. */
    private static void alterAny() {
        int[] any = {Due.MOST, Due.LEAST, -1, 0, 512, Due.BEYOND, 7};
        MarkedSweeps x = proven();
        int was = 7;
        for (int v : any) {
            due.is("37: what it was", x.alter(0, 0, v), was);
            due.is("37: what it is", x.row(0, 0), v);
            was = v;
        }
        due.is("37: back where it was: no finding", x.status(-1), 0);
        twins.alike("37: nothing else", x, proven());
        MarkedSweeps last = proven();
        due.is("37: the last", last.alter(1, 1, 8), 0);
        due.is("37: its POINTS stay", last.row(1, 0), 13);
        due.is("37: the first stays", last.row(0, 1), 1);
        due.is("37: the SWEEP stays", last.advance(0, 1, 1), 0);
    }

    /** "NONE: no such NET." */
    private static void judgeNone() {
        for (int k : NO_NET_OF_SQUARE) {
            twins.refuse("38: judge(" + k + ")", BoundsOfSweepsTest::proven, x -> x.judge(k),
                Due.NONE);
        }
        twins.refuse("38: by MARKS", BoundsOfSweepsTest::barredSquare, x -> x.judge(0), Due.NONE);
        twins.refuse("38: no ROWS and no NET", MarkedSweeps::new, x -> x.judge(0), Due.NONE);
    }

    /** "0: .. are those of the k-th NET; else 1 and the first that isn't": from the first on. */
    private static void judgeFirst() {
        twins.answer("38: they are", BoundsOfSweepsTest::proven, x -> x.judge(0), 0);
        twins.answer("38: the first isn't", BoundsOfSweepsTest::proven, x -> x.judge(1), 1);
        for (int i = 12; i >= 0; i--) {
            for (int what = 0; what < 2; what++) {
                MarkedSweeps x = Due.tent();
                x.prove(5);
                int was = x.alter(i, what, -1);
                due.is("38: ROW " + i, x.judge(5), 1 + i);
                x.alter(12, 0, 0);
                due.is("38: the first of two", x.judge(5), 1 + i);
                x.alter(12, 0, x.advance(5, 12, 0));
                x.alter(i, what, was);
                due.is("38: as it was", x.judge(5), 0);
            }
        }
    }

    /** ".. lacks, or is too many." */
    private static void judgeLacksOrTooMany() {
        twins.answer("38: the first lacks", Due::square, x -> x.judge(0), 1);
        MarkedSweeps fewer = Due.points(0, 0, 10, 1, 5, -8);
        fewer.prove(0);
        fewer.place(6, 30);
        due.is("38: the last lacks", fewer.judge(0), 2);
        fewer.prove(0);
        due.is("38: none lacks", fewer.judge(0), 0);
        fewer.drop();
        due.is("38: the last is too many", fewer.judge(0), 2);
        fewer.alter(0, 1, 5);
        due.is("38: one that isn't, ahead of it", fewer.judge(0), 1);
        MarkedSweeps most = Due.tent();
        most.prove(0);
        for (int i = 0; i < 6; i++) {
            most.drop();
        }
        int first = most.row(0, 0) == 7 && most.row(0, 1) == most.advance(0, 0, 1) ? 2 : 1;
        due.is("38: many are too many", most.judge(0), first);
        most.alter(0, 0, most.advance(0, 0, 0));
        most.alter(0, 1, most.advance(0, 0, 1));
        due.is("38: the second is the first too many", most.judge(0), 2);
    }

    /** ROWS are no part of what is undone, nor do they follow POINTS or MARKS. */
    private static void rowsStay() {
        MarkedSweeps x = proven();
        x.alter(0, 0, 99);
        int changes = x.count(2);
        due.is("37: no CHANGE", changes, 4);
        for (int i = 0; i < 4; i++) {
            x.undo();
        }
        due.is("35: they stay", x.count(4), 2);
        due.is("37: altered as they are", x.row(0, 0), 99);
        due.is("38: no NET to judge by", x.judge(0), Due.NONE);
    }
}
