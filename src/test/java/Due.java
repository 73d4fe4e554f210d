/** Counts answers that are not the ones due, and ends a test. */
final class Due {
    static final int BEYOND = -1000001;
    static final int FULL = -1000002;
    static final int KIND = -1000003;
    static final int NONE = -1000004;
    static final int STATE = -1000005;
    static final int MISSING = -1000006;
    static final int SIZE = -1000007;
    static final int OVER = -1000008;
    static final long LONG_BEYOND = -1000000000000000001L;
    static final long LONG_NONE = -1000000000000000004L;
    static final long LONG_MISSING = -1000000000000000006L;
    static final long LONG_OVER = -1000000000000000008L;
    static final int MOST = Integer.MAX_VALUE;
    static final int LEAST = Integer.MIN_VALUE;

    private int wrong = 0;

    void is(String call, long got, long want) {
        if (got != want) {
            wrong++;
            System.out.println(call + " answered " + got + ", due is " + want);
        }
    }

    void same(String call, String got, String want) {
        if (!got.equals(want)) {
            wrong++;
            System.out.println(call + " told " + got + ", due is " + want);
        }
    }

    void end() {
        System.exit(wrong == 0 ? 0 : 1);
    }

    /** An object with POINTS at these x, y, x, y, .. */
    static MarkedSweeps points(int... where) {
        MarkedSweeps made = new MarkedSweeps();
        for (int i = 0; i + 1 < where.length; i += 2) {
            made.place(where[i], where[i + 1]);
        }
        return made;
    }

    /** (0, 0), (10, 0), (10, 10), (0, 10). */
    static MarkedSweeps square() {
        return points(0, 0, 10, 0, 10, 10, 0, 10);
    }

    /** So many POINTS on a bow, each of THE HULL, their numbers by x. */
    static MarkedSweeps bow(int many) {
        MarkedSweeps made = new MarkedSweeps();
        for (int i = 0; i < many; i++) {
            made.place(i - 4, (i - 4) * (i - 4));
        }
        return made;
    }

    /** Three of THE HULL and six WITHIN them: as many TRIANGLES as nine can have. */
    static MarkedSweeps tent() {
        return points(-90, -90, 90, -89, 1, 95, 0, 1, 3, 20, -7, 9, 11, -5, 5, 40, -3, -30);
    }

    /** As many NETS as nine POINTS can have: 780. */
    static MarkedSweeps crowd() {
        return points(73, 31, -21, 50, -25, 52, -27, 74, -7, 29, 66, 31, -62, 9, -30, 99, -95, -17);
    }

    /** Something of everything: POINTS, MARKS, STEPS, ROWS, SHEETS 0 to 2, findings, an undo. */
    static MarkedSweeps rich() {
        MarkedSweeps made = points(0, 0, 20, 1, 18, 19, 2, 17, 9, 7, 11, 12);
        made.mark(0, 4, 1);
        made.mark(1, 3, 2);
        made.mark(3, 4, 2);
        made.step(1, 3);
        made.step(0, -7);
        made.seed(77);
        lay(made, 0, 0, 0, 1, 2);
        lay(made, 1, 1, 5, -6, 7, -8, 1 << 30);
        lay(made, 2, 2, 0, 1, 2, 3, 1L << 40);
        made.prove(0);
        made.alter(1, 1, 9);
        made.place(100, 0);
        made.net(-1);
        made.drop();
        made.undo();
        return made;
    }

    /** The EDGE as a bit of a set. */
    static long edge(int i, int j) {
        return 1L << Reference.number(i, j);
    }

    /** The number of the last EDGE that POINT i brings, of those to lesser ones. */
    static int lastEdge(int i) {
        return Reference.number(i - 1, i);
    }

    static void lay(MarkedSweeps made, int s, int sort, long... numbers) {
        made.sheet(s, sort, numbers.length);
        for (int i = 0; i < numbers.length; i++) {
            made.write(s, i, numbers[i]);
        }
    }
}
