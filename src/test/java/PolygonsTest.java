/** Promises 31 to 34. */
public final class PolygonsTest {
    private static final Due due = new Due();

    public static void main(String[] args) {
        splits();
        dented();
        within();
        noPolygon();
        empty();
        due.end();
    }

    private static void splits() {
        int[] catalan = {0, 0, 0, 1, 2, 5, 14, 42, 132, 429};
        MarkedSweeps x = Due.bow(9);
        for (int n = 3; n <= 9; n++) {
            long[] row = new long[n];
            for (int i = 0; i < n; i++) {
                row[i] = i;
            }
            Due.lay(x, 0, n % 3, row);
            due.is("31: of " + n, x.splits(0), catalan[n]);
        }
        Due.lay(x, 1, 1, 7, 5, 2, 1, 0);
        due.is("31: the other way round", x.splits(1), 5);
        x.mark(0, 2, 2);
        x.mark(1, 7, 1);
        due.is("31: MARKS don't matter", x.splits(1), 5);
        due.is("31: no CHANGE", x.count(2), 11);
    }

    /** A dart, with a point inside, and one in the dent. */
    private static MarkedSweeps dart() {
        return Due.points(0, 0, 10, 0, 3, 3, 0, 10, 2, 1, 5, 4);
    }

    private static void dented() {
        MarkedSweeps x = dart();
        Due.lay(x, 0, 0, 0, 1, 2, 3);
        due.is("31: a dart", x.splits(0), 1);
        due.is("32: a dart", x.area(0), 60);
        Due.lay(x, 0, 2, 2, 1, 0, 3);
        due.is("31: a dart, the other way round", x.splits(0), 1);
        due.is("32: a dart, the other way round", x.area(0), 60);
        x.move(3, 1, 10);
        due.is("32: a POINT lies elsewhere", x.area(0), 57);
        Due.lay(x, 1, 1, 0, 1, 3);
        due.is("31: a triangle", x.splits(1), 1);
        due.is("32: a triangle", x.area(1), 100);
        MarkedSweeps star = Due.points(0, 20, -4, 5, -19, 1, -5, -6, -12, -22, 1, -10, 13, -21, 6,
            -5, 20, 2);
        Due.lay(star, 3, 2, 0, 1, 2, 3, 4, 5, 6, 7, 8);
        Reference same = new Reference();
        for (int i = 0; i < 9; i++) {
            same.place(star.at(i, 0), star.at(i, 1));
        }
        same.sheet(3, 2, 9);
        for (int i = 0; i < 9; i++) {
            same.write(3, i, i);
        }
        due.is("31: a star", star.splits(3), same.splits(3));
        due.is("32: a star", star.area(3), same.area(3));
        MarkedSweeps wide = Due.points(-99, -99, 99, -99, 99, 99, -99, 99);
        Due.lay(wide, 0, 0, 0, 1, 2, 3);
        due.is("32: the widest", wide.area(0), 2 * 198 * 198);
    }

    private static void within() {
        MarkedSweeps x = dart();
        Due.lay(x, 0, 0, 0, 1, 2, 3);
        due.is("33: a dart", x.within(0), 1 << 4);
        Due.lay(x, 0, 0, 3, 2, 1, 0);
        due.is("33: a dart, the other way round", x.within(0), 1 << 4);
        Due.lay(x, 0, 0, 0, 1, 3);
        due.is("33: a triangle", x.within(0), 1 << 2 | 1 << 4 | 1 << 5);
        Due.lay(x, 0, 0, 0, 1, 5, 3);
        due.is("33: the point in the dent is a corner", x.within(0), 1 << 2 | 1 << 4);
        MarkedSweeps level = Due.points(-10, 0, 0, -10, 11, 0, 0, 10, 1, 5);
        level.place(-2, 3);
        level.place(4, -4);
        level.place(20, 5);
        Due.lay(level, 2, 1, 0, 1, 2, 3);
        due.is("33: beside corners of like height", level.within(2), 1 << 4 | 1 << 5 | 1 << 6);
        level.move(5, -20, 0);
        due.is("33: level with two on a line", level.at(5, 0), -2);
        level.drop();
        level.drop();
        level.move(2, 12, 1);
        due.is("33: level with a corner, outside", level.move(4, -30, 1), 1);
        due.is("33: outside", level.within(2), 1 << 5);
    }

    private static void noPolygon() {
        MarkedSweeps x = Due.square();
        int[] beyond = {-1, 4, Due.MOST, Due.LEAST};
        for (int s : beyond) {
            due.is("31: splits(" + s + ")", x.splits(s), Due.BEYOND);
            due.is("32: area(" + s + ")", x.area(s), Due.BEYOND);
            due.is("33: within(" + s + ")", x.within(s), Due.BEYOND);
        }
        due.is("31: MISSING", x.splits(3), Due.MISSING);
        due.is("32: MISSING", x.area(3), Due.MISSING);
        due.is("33: MISSING", x.within(3), Due.MISSING);
        long[][] rows = {{}, {0}, {0, 1}, {0, 2, 1, 3}, {0, 1, 2, 1}, {0, 1, 2, 4}, {0, 1, -1},
            {0, 1, 1L << 32 | 2}, {0, 1, 2, 3, 0}, {0, 0, 0}};
        for (long[] row : rows) {
            Due.lay(x, 3, 2, row);
            due.is("31: no POLYGON", x.splits(3), Due.STATE);
            due.is("32: no POLYGON", x.area(3), Due.STATE);
            due.is("33: no POLYGON", x.within(3), Due.STATE);
        }
        Due.lay(x, 3, 1, 0, 1, 1L << 32 | 2);
        due.is("31: the lowest bits are one", x.splits(3), 1);
        Due.lay(x, 3, 2, 0, 1, 2, 3);
        due.is("31: a POLYGON", x.splits(3), 2);
        x.drop();
        due.is("31: a POINT is gone", x.splits(3), Due.STATE);
        x.sheet(3, 0, 40);
        due.is("31: far too many", x.splits(3), Due.STATE);
    }

    private static void empty() {
        MarkedSweeps five = Due.bow(5);
        int[] many = {10, 5, 1, 0};
        for (int k = 3; k <= 6; k++) {
            due.is("34: a bow of five, " + k, five.empty(k), many[k - 3]);
        }
        MarkedSweeps nine = Due.bow(9);
        int[] ofNine = {84, 126, 126, 84};
        for (int k = 3; k <= 6; k++) {
            due.is("34: a bow of nine, " + k, nine.empty(k), ofNine[k - 3]);
        }
        MarkedSweeps inner = Due.points(0, 0, 10, 0, 3, 10, 4, 3);
        due.is("34: one inside, 3", inner.empty(3), 3);
        due.is("34: one inside, 4", inner.empty(4), 0);
        MarkedSweeps square = Due.square();
        square.place(7, 4);
        due.is("34: a square around one, 3", square.empty(3), 8);
        due.is("34: a square around one, 4", square.empty(4), 2);
        due.is("34: none", new MarkedSweeps().empty(3), 0);
        due.is("34: empty(2)", five.empty(2), Due.BEYOND);
        due.is("34: empty(7)", nine.empty(7), Due.BEYOND);
        due.is("34: empty(-1)", five.empty(-1), Due.BEYOND);
    }
}
