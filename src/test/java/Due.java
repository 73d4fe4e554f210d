/** Counts answers that are not the ones due, and ends a test. */
final class Due {
    static final int BEYOND = -1000001;
    static final int FULL = -1000002;
    static final int KIND = -1000003;
    static final int NONE = -1000004;
    static final int STATE = -1000005;
    static final int MISSING = -1000006;
    static final int SIZE = -1000007;
    static final int OVER = -1000008;
    static final long LONG_BEYOND = -1000000000000000001L;
    static final long LONG_NONE = -1000000000000000004L;
    static final long LONG_MISSING = -1000000000000000006L;
    static final long LONG_OVER = -1000000000000000008L;
    static final int MOST = Integer.MAX_VALUE;
    static final int LEAST = Integer.MIN_VALUE;

    private int wrong = 0;

    void is(String call, long got, long want) {
        if (got != want) {
            wrong++;
            System.out.println(call + " answered " + got + ", due is " + want);
        }
    }

    void end() {
        System.exit(wrong == 0 ? 0 : 1);
    }

    /** An object with POINTS at these x, y, x, y, .. */
    static MarkedSweeps points(int... where) {
        MarkedSweeps made = new MarkedSweeps();
        for (int i = 0; i + 1 < where.length; i += 2) {
            made.place(where[i], where[i + 1]);
        }
        return made;
    }

    /** (0, 0), (10, 0), (10, 10), (0, 10). */
    static MarkedSweeps square() {
        return points(0, 0, 10, 0, 10, 10, 0, 10);
    }

    /** So many POINTS on a bow, each of THE HULL, their numbers by x. */
    static MarkedSweeps bow(int many) {
        MarkedSweeps made = new MarkedSweeps();
        for (int i = 0; i < many; i++) {
            made.place(i - 4, (i - 4) * (i - 4));
        }
        return made;
    }

    /** The EDGE as a bit of a set. */
    static long edge(int i, int j) {
        return 1L << Reference.number(i, j);
    }

    static void lay(MarkedSweeps made, int s, int sort, long... numbers) {
        made.sheet(s, sort, numbers.length);
        for (int i = 0; i < numbers.length; i++) {
            made.write(s, i, numbers[i]);
        }
    }
}
