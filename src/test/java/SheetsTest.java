/** Promises 39 to 42. */
public final class SheetsTest {
    private static final Due due = new Due();

    public static void main(String[] args) {
        sheet();
        write();
        item();
        copy();
        copyRefused();
        due.end();
    }

    private static void sheet() {
        MarkedSweeps x = new MarkedSweeps();
        due.is("39: sheet(0, 0, 40)", x.sheet(0, 0, 40), 40);
        due.is("39: sheet(1, 1, 0)", x.sheet(1, 1, 0), 0);
        due.is("39: of none", x.item(1, 0), Due.LONG_BEYOND);
        due.is("39: sheet(3, 2, 7)", x.sheet(3, 2, 7), 7);
        for (int i = 0; i < 7; i++) {
            due.is("39: all 0", x.item(3, i), 0);
        }
        x.write(3, 6, 5);
        x.sheet(3, 2, 7);
        due.is("39: all 0 again", x.item(3, 6), 0);
        due.is("39: MISSING", x.sheet(3, -1, 7), 0);
        due.is("39: it is", x.item(3, 0), Due.LONG_MISSING);
        due.is("39: n doesn't count below 0", x.sheet(3, -1, -1), 0);
        due.is("39: n doesn't count above 40", x.sheet(3, -1, 41), 0);
        due.is("39: sheet(4, 0, 1)", x.sheet(4, 0, 1), Due.BEYOND);
        due.is("39: sheet(-1, 0, 1)", x.sheet(-1, 0, 1), Due.BEYOND);
        due.is("39: sheet(0, 3, 1)", x.sheet(0, 3, 1), Due.BEYOND);
        due.is("39: sheet(0, -2, 1)", x.sheet(0, -2, 1), Due.BEYOND);
        due.is("39: sheet(0, 0, -1)", x.sheet(0, 0, -1), Due.SIZE);
        due.is("39: sheet(0, 0, least)", x.sheet(0, 0, Due.LEAST), Due.SIZE);
        due.is("39: sheet(0, 0, 41)", x.sheet(0, 0, 41), Due.BEYOND);
        due.is("39: BEYOND ahead of SIZE", x.sheet(0, 3, -1), Due.BEYOND);
        due.is("39: it stays", x.item(0, 39), 0);
        due.is("39: no CHANGE", x.count(2), 0);
    }

    private static void write() {
        MarkedSweeps x = new MarkedSweeps();
        due.is("40: MISSING", x.write(0, 0, 1), Due.MISSING);
        due.is("40: write(4, 0, 1)", x.write(4, 0, 1), Due.BEYOND);
        due.is("40: write(-1, 0, 1)", x.write(-1, 0, 1), Due.BEYOND);
        long[] values = {Long.MAX_VALUE, Long.MIN_VALUE, 128, -129, 1L << 31, -1, 0x1234567890L};
        for (int sort = 0; sort < 3; sort++) {
            x.sheet(sort, sort, values.length);
            for (int i = 0; i < values.length; i++) {
                long v = values[i];
                due.is("40: write", x.write(sort, i, v), 1);
                due.is("40: its lowest bits", x.item(sort, i),
                    sort == 0 ? (byte) v : sort == 1 ? (int) v : v);
            }
            due.is("40: no such number", x.write(sort, values.length, 1), Due.BEYOND);
            due.is("40: below 0", x.write(sort, -1, 1), Due.BEYOND);
            due.is("40: the least", x.write(sort, Due.LEAST, 1), Due.BEYOND);
        }
        due.is("40: MISSING ahead of the second BEYOND", x.write(3, -1, 1), Due.MISSING);
    }

    private static void item() {
        MarkedSweeps x = new MarkedSweeps();
        Due.lay(x, 2, 2, 5, -6);
        due.is("41: item(2, 0)", x.item(2, 0), 5);
        due.is("41: item(2, 1)", x.item(2, 1), -6);
        due.is("41: item(2, 2)", x.item(2, 2), Due.LONG_BEYOND);
        due.is("41: item(2, -1)", x.item(2, -1), Due.LONG_BEYOND);
        due.is("41: item(0, -1)", x.item(0, -1), Due.LONG_MISSING);
        due.is("41: item(4, 0)", x.item(4, 0), Due.LONG_BEYOND);
        due.is("41: item(-1, 0)", x.item(-1, 0), Due.LONG_BEYOND);
        due.is("41: status(5)", x.status(5), 1);
    }

    private static void holds(MarkedSweeps x, int s, long... numbers) {
        for (int i = 0; i < numbers.length; i++) {
            due.is("42: number " + i + " of " + s, x.item(s, i), numbers[i]);
        }
    }

    private static void copy() {
        MarkedSweeps x = new MarkedSweeps();
        Due.lay(x, 0, 1, 1, 2, 3, 4, 5);
        Due.lay(x, 1, 1, 0, 0, 0);
        due.is("42: to another one", x.copy(0, 2, 1, 0, 3), 3);
        holds(x, 1, 3, 4, 5);
        due.is("42: upward in one", x.copy(0, 0, 0, 1, 4), 4);
        holds(x, 0, 1, 1, 2, 3, 4);
        Due.lay(x, 0, 1, 1, 2, 3, 4, 5);
        due.is("42: downward in one", x.copy(0, 1, 0, 0, 4), 4);
        holds(x, 0, 2, 3, 4, 5, 5);
        due.is("42: none at the ends", x.copy(0, 5, 1, 3, 0), 0);
        due.is("42: all of it to itself", x.copy(0, 0, 0, 0, 5), 5);
        holds(x, 0, 2, 3, 4, 5, 5);
    }

    private static void copyRefused() {
        MarkedSweeps x = new MarkedSweeps();
        Due.lay(x, 0, 1, 1, 2, 3);
        Due.lay(x, 1, 1, 7, 8);
        Due.lay(x, 2, 0, 9, 9);
        int[][] beyond = {{-1, 0, 0, 0, 1}, {4, 0, 0, 0, 1}, {0, 0, -1, 0, 1}, {0, 0, 4, 0, 1},
            {3, 0, 4, 0, 1}, {0, 0, 1, 0, 3}, {1, 0, 0, 0, 3}, {0, -1, 1, 0, 1}, {0, 0, 1, -1, 1},
            {0, 0, 1, 0, -1}, {0, 4, 1, 0, 0}, {0, 0, 1, 3, 0}, {0, Due.MOST, 1, 0, Due.MOST},
            {0, 1, 1, 0, Due.MOST}, {0, 0, 1, Due.MOST, 1}, {0, 3, 1, 0, 1}};
        for (int[] b : beyond) {
            due.is("42: copy " + b[0] + " " + b[1] + " " + b[2] + " " + b[3] + " " + b[4],
                x.copy(b[0], b[1], b[2], b[3], b[4]), Due.BEYOND);
        }
        due.is("42: MISSING from", x.copy(3, 0, 0, 0, 1), Due.MISSING);
        due.is("42: MISSING to", x.copy(0, 0, 3, 0, 1), Due.MISSING);
        due.is("42: unlike sorts", x.copy(0, 0, 2, 0, 1), Due.KIND);
        due.is("42: KIND ahead of the second BEYOND", x.copy(0, 9, 2, 0, 1), Due.KIND);
        due.is("42: MISSING ahead of KIND", x.copy(3, -1, 2, 0, 1), Due.MISSING);
        holds(x, 0, 1, 2, 3);
        holds(x, 1, 7, 8);
    }
}
