/** Promises 11 to 20. */
public final class NetsTest {
    private static final Due due = new Due();
    /** The square's nets: its sides, and one of its diagonals. */
    private static final long SIDES =
        Due.edge(0, 1) | Due.edge(1, 2) | Due.edge(2, 3) | Due.edge(0, 3);
    private static final long NET_02 = SIDES | Due.edge(0, 2);
    private static final long NET_13 = SIDES | Due.edge(1, 3);

    public static void main(String[] args) {
        nets();
        netAndRank();
        with();
        always();
        draw();
        fan();
        flips();
        flip();
        apart();
        due.end();
    }

    private static void nets() {
        int[] catalan = {0, 0, 0, 1, 2, 5, 14, 42, 132, 429};
        for (int n = 0; n <= 9; n++) {
            due.is("11: a bow of " + n, Due.bow(n).nets(), catalan[n]);
        }
        due.is("11: the most that nine have", Due.crowd().nets(), 780);
        MarkedSweeps x = Due.square();
        due.is("11: nets()", x.nets(), 2);
        x.mark(0, 2, 2);
        due.is("11: BARRED", x.nets(), 1);
        x.mark(1, 3, 2);
        due.is("11: BARRED both", x.nets(), 0);
        x.mark(0, 2, 1);
        due.is("11: MUST", x.nets(), 1);
        x.mark(0, 1, 1);
        due.is("11: MUST at THE HULL", x.nets(), 1);
        x.mark(0, 1, 2);
        due.is("11: BARRED at THE HULL", x.nets(), 0);
        x.undo();
        due.is("11: undone", x.nets(), 1);
        x.place(7, 4);
        due.is("11: with one inside", x.nets(), 1);
        x.drop();
        x.drop();
        due.is("11: a triangle", x.nets(), 1);
        due.is("11: findings", x.status(-1), 0);
    }

    private static void netAndRank() {
        MarkedSweeps x = Due.square();
        due.is("12: net(0)", x.net(0), NET_02);
        due.is("12: net(1)", x.net(1), NET_13);
        due.is("12: net(2)", x.net(2), Due.LONG_NONE);
        due.is("12: net(-1)", x.net(-1), Due.LONG_NONE);
        due.is("12: net(most)", x.net(Due.MOST), Due.LONG_NONE);
        due.is("13: rank of the first", x.rank(NET_02), 0);
        due.is("13: rank of the second", x.rank(NET_13), 1);
        due.is("13: lacking one", x.rank(SIDES), Due.NONE);
        due.is("13: crossing", x.rank(NET_02 | NET_13), Due.NONE);
        due.is("13: of no POINTS", x.rank(NET_02 | Due.edge(0, 5)), Due.NONE);
        due.is("13: higher bits", x.rank(NET_02 | 1L << 36), Due.NONE);
        due.is("13: rank(0)", x.rank(0), Due.NONE);
        due.is("13: rank(-1)", x.rank(-1), Due.NONE);
        due.is("13: rank(most)", x.rank(Long.MAX_VALUE), Due.NONE);
        x.mark(1, 3, 1);
        due.is("12: by MARKS", x.net(0), NET_13);
        due.is("13: by MARKS", x.rank(NET_13), 0);
        due.is("13: none by MARKS", x.rank(NET_02), Due.NONE);
        MarkedSweeps none = Due.points(0, 0, 5, 7);
        due.is("12: of two POINTS", none.net(0), Due.LONG_NONE);
        due.is("13: of two POINTS", none.rank(1), Due.NONE);
        for (int from = 0; from < 429; from += 143) {
            MarkedSweeps bow = Due.bow(9);
            for (int k = from; k < from + 143; k++) {
                due.is("13: rank of net " + k, bow.rank(bow.net(k)), k);
            }
        }
    }

    private static void with() {
        MarkedSweeps x = Due.square();
        due.is("14: a side", x.with(0, 1), 2);
        due.is("14: a diagonal", x.with(2, 0), 1);
        x.mark(1, 3, 1);
        due.is("14: barred by MUST", x.with(0, 2), 0);
        due.is("14: MUST", x.with(1, 3), 1);
        due.is("14: of a bow", Due.bow(6).with(0, 2), 5);
        due.is("14: without NETS", Due.points(0, 0, 1, 5).with(0, 1), 0);
        due.is("14: one and the same", x.with(1, 1), Due.BEYOND);
        due.is("14: with(0, 4)", x.with(0, 4), Due.BEYOND);
        due.is("14: with(-1, 0)", x.with(-1, 0), Due.BEYOND);
    }

    private static void always() {
        MarkedSweeps x = Due.square();
        due.is("15: in all", x.always(0), SIDES);
        due.is("15: in any", x.always(1), NET_02 | NET_13);
        due.is("15: always(2)", x.always(2), Due.LONG_BEYOND);
        due.is("15: always(-1)", x.always(-1), Due.LONG_BEYOND);
        x.mark(0, 1, 2);
        due.is("15: in all of none", x.always(0), Due.LONG_NONE);
        due.is("15: in any of none", x.always(1), Due.LONG_NONE);
        due.is("15: BEYOND ahead of NONE", x.always(2), Due.LONG_BEYOND);
    }

    private static void draw() {
        MarkedSweeps x = Due.bow(8);
        int z = 1;
        for (int at = 0; at < 50; at++) {
            z = z * 1103515245 + 12345;
            due.is("16: draw " + at, x.draw(), (z >>> 8) % 132);
            due.is("16: z", x.count(3), z);
        }
        x.seed(-7);
        z = -7 * 1103515245 + 12345;
        due.is("16: behind a seed", x.draw(), (z >>> 8) % 132);
        MarkedSweeps none = Due.points(0, 0, 1, 5);
        due.is("16: of none", none.draw(), Due.NONE);
        due.is("16: nothing is drawn", none.count(3), 1);
        due.is("16: no CHANGE", none.count(2), 2);
    }

    private static void fan() {
        MarkedSweeps x = Due.square();
        due.is("17: fan(0, 0)", x.fan(0, 0), 2);
        due.is("17: fan(0, 1)", x.fan(0, 1), 1);
        due.is("17: fan(1, 0)", x.fan(1, 0), 1);
        due.is("17: fan(1, 3)", x.fan(1, 3), 2);
        MarkedSweeps inner = Due.points(0, 0, 10, 0, 3, 10, 4, 3);
        due.is("17: an inner one", inner.fan(0, 3), 3);
        due.is("17: an outer one", inner.fan(0, 0), 2);
        due.is("17: fan(0, 4)", x.fan(0, 4), Due.BEYOND);
        due.is("17: fan(0, -1)", x.fan(0, -1), Due.BEYOND);
        due.is("17: fan(2, 0)", x.fan(2, 0), Due.NONE);
        due.is("17: fan(-1, 0)", x.fan(-1, 0), Due.NONE);
        due.is("17: BEYOND ahead of NONE", x.fan(-1, 4), Due.BEYOND);
    }

    private static void flips() {
        MarkedSweeps x = Due.square();
        due.is("18: flips(0)", x.flips(0), Due.edge(0, 2));
        due.is("18: flips(1)", x.flips(1), Due.edge(1, 3));
        due.is("18: flips(2)", x.flips(2), Due.LONG_NONE);
        due.is("18: flips(-1)", x.flips(-1), Due.LONG_NONE);
        x.mark(0, 2, 1);
        due.is("18: MUST stays", x.flips(0), 0);
        x.mark(0, 2, 0);
        x.mark(1, 3, 2);
        due.is("18: BARRED can't come", x.flips(0), 0);
        due.is("18: no FLIP where an angle is dented",
            Due.points(0, 0, 10, 0, 3, 10, 4, 3).flips(0), 0);
        MarkedSweeps bow = Due.bow(5);
        due.is("18: of a fan", bow.flips(bow.rank(fanOfFive())), Due.edge(0, 2) | Due.edge(0, 3));
    }

    private static long fanOfFive() {
        return Due.edge(0, 1) | Due.edge(0, 2) | Due.edge(0, 3) | Due.edge(0, 4) | Due.edge(1, 2)
            | Due.edge(2, 3) | Due.edge(3, 4);
    }

    private static void flip() {
        MarkedSweeps x = Due.square();
        due.is("19: flip(0, 0, 2)", x.flip(0, 0, 2), 1);
        due.is("19: flip(1, 3, 1)", x.flip(1, 3, 1), 0);
        due.is("19: of a side", x.flip(0, 0, 1), Due.NONE);
        due.is("19: of one that it lacks", x.flip(0, 1, 3), Due.NONE);
        due.is("19: flip(2, 0, 2)", x.flip(2, 0, 2), Due.NONE);
        due.is("19: flip(-1, 0, 2)", x.flip(-1, 0, 2), Due.NONE);
        due.is("19: one and the same", x.flip(0, 2, 2), Due.BEYOND);
        due.is("19: flip(0, 0, 4)", x.flip(0, 0, 4), Due.BEYOND);
        due.is("19: flip(0, -1, 2)", x.flip(0, -1, 2), Due.BEYOND);
        due.is("19: BEYOND ahead of NONE", x.flip(9, 0, 4), Due.BEYOND);
        x.mark(1, 3, 2);
        due.is("19: to a BARRED one", x.flip(0, 0, 2), Due.NONE);
        x.mark(1, 3, 0);
        x.mark(0, 2, 1);
        due.is("19: of one that MUST be", x.flip(0, 0, 2), Due.NONE);
        MarkedSweeps bow = Due.bow(5);
        long made = fanOfFive() ^ Due.edge(0, 2) ^ Due.edge(1, 3);
        due.is("19: of a fan", bow.flip(bow.rank(fanOfFive()), 0, 2), bow.rank(made));
    }

    private static void apart() {
        MarkedSweeps x = Due.square();
        due.is("20: apart(0, 1)", x.apart(0, 1), 1);
        due.is("20: apart(1, 1)", x.apart(1, 1), 0);
        due.is("20: apart(0, 2)", x.apart(0, 2), Due.NONE);
        due.is("20: apart(2, 0)", x.apart(2, 0), Due.NONE);
        due.is("20: apart(-1, 0)", x.apart(-1, 0), Due.NONE);
        due.is("20: apart(0, -1)", x.apart(0, -1), Due.NONE);
        MarkedSweeps five = Due.bow(5);
        int sum = 0;
        for (int k = 0; k < 5; k++) {
            for (int l = 0; l < 5; l++) {
                sum += five.apart(k, l);
            }
        }
        // A ring of five: each has two at 1 and two at 2.
        due.is("20: all of a ring of five", sum, 30);
        MarkedSweeps six = Due.bow(6);
        six.mark(0, 3, 2);
        six.mark(1, 4, 2);
        six.mark(2, 5, 2);
        due.is("20: the two inner triangles alone", six.nets(), 2);
        due.is("20: by none", six.apart(0, 1), Due.NONE);
        due.is("20: by none, but itself", six.apart(1, 1), 0);
        six.mark(1, 4, 0);
        due.is("20: a way is open", six.apart(0, six.nets() - 1) > 0 ? 1 : 0, 1);
        MarkedSweeps nine = Due.bow(9);
        int greatest = 0;
        for (int l = 0; l < 429; l += 7) {
            greatest = Math.max(greatest, nine.apart(0, l));
            due.is("20: either way", nine.apart(l, 0), nine.apart(0, l));
        }
        due.is("20: of nine", greatest <= 8 && greatest >= 5 ? 1 : 0, 1);
    }
}
