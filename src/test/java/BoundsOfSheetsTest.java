import java.util.function.Supplier;

/** The boundary cases of promises 39 to 42, sentence by sentence. */
public final class BoundsOfSheetsTest {
    private static final Due due = new Due();
    private static final Twins twins = new Twins(due);
    private static final int[] NO_SHEET = {-1, 4, 5, Due.MOST, Due.LEAST};

    public static void main(String[] args) {
        sheetBeyond();
        sheetMissing();
        sheetSize();
        sheetAboveForty();
        sheetAllZero();
        writeBeyondAndMissing();
        writeNoSuchNumber();
        writeLowestBits();
        itemRefused();
        itemLikeFindings();
        copyNoSheet();
        copyMissing();
        copyKind();
        copyNotSoMany();
        copyNone();
        copyAsTheyWere();
        noChanges();
        due.end();
    }

    /** Rows of 5 in SHEETS 0 to 2, of ints, ints, bytes; 3 is MISSING. */
    private static MarkedSweeps rows() {
        MarkedSweeps x = new MarkedSweeps();
        Due.lay(x, 0, 1, 1, 2, 3, 4, 5);
        Due.lay(x, 1, 1, 6, 7, 8);
        Due.lay(x, 2, 0, 9, 10, 11, 12, 13);
        return x;
    }

    /** "BEYOND: no such SHEET, sort." */
    private static void sheetBeyond() {
        for (int s : NO_SHEET) {
            twins.refuse("39: sheet(" + s + ", 0, 1)", Due::rich, x -> x.sheet(s, 0, 1),
                Due.BEYOND);
            twins.refuse("39: sheet(" + s + ", -1, 0)", Due::rich, x -> x.sheet(s, -1, 0),
                Due.BEYOND);
            twins.refuse("39: BEYOND, SIZE", Due::rich, x -> x.sheet(s, 0, -1), Due.BEYOND);
        }
        int[] sorts = {-2, 3, 4, Due.MOST, Due.LEAST};
        for (int sort : sorts) {
            for (int s = 0; s < 4; s++) {
                int t = s;
                twins.refuse("39: sheet(" + s + ", " + sort + ", 1)", Due::rich,
                    x -> x.sheet(t, sort, 1), Due.BEYOND);
                twins.refuse("39: BEYOND, SIZE", Due::rich, x -> x.sheet(t, sort, -1), Due.BEYOND);
            }
        }
        for (int s = 0; s < 4; s++) {
            for (int sort = 0; sort < 3; sort++) {
                MarkedSweeps x = Due.rich();
                due.is("39: sheet(" + s + ", " + sort + ", 2)", x.sheet(s, sort, 2), 2);
                due.is("39: its last", x.item(s, 1), 0);
                due.is("39: no more", x.item(s, 2), Due.LONG_BEYOND);
            }
        }
    }

    /** "or MISSING (sort -1; n doesn't count): .. (0)". */
    private static void sheetMissing() {
        int[] any = {-1, 0, 1, 40, 41, Due.MOST, Due.LEAST};
        for (int n : any) {
            for (int s = 0; s < 4; s++) {
                MarkedSweeps x = Due.rich();
                due.is("39: sheet(" + s + ", -1, " + n + ")", x.sheet(s, -1, n), 0);
                due.is("39: no finding", x.status(-1), 2);
                due.is("39: it is MISSING", x.item(s, 0), Due.LONG_MISSING);
            }
        }
        MarkedSweeps x = Due.rich();
        x.sheet(1, -1, 0);
        due.is("39: the others stay", x.item(0, 2) + x.item(2, 3), 5);
        x.sheet(1, 1, 5);
        due.is("39: all 0 when it comes again", x.item(1, 0), 0);
    }

    /** "SIZE: n is below 0." */
    private static void sheetSize() {
        int[] below = {-1, -2, -40, Due.LEAST};
        for (int n : below) {
            for (int sort = 0; sort < 3; sort++) {
                int t = sort;
                twins.refuse("39: sheet(0, " + t + ", " + n + ")", Due::rich,
                    x -> x.sheet(0, t, n), Due.SIZE);
                twins.refuse("39: sheet(3, " + t + ", " + n + ")", Due::rich,
                    x -> x.sheet(3, t, n), Due.SIZE);
            }
        }
        MarkedSweeps x = Due.rich();
        due.is("39: n is 0", x.sheet(0, 0, 0), 0);
        due.is("39: not MISSING, but without numbers", x.item(0, 0), Due.LONG_BEYOND);
    }

    /** "BEYOND: above 40." */
    private static void sheetAboveForty() {
        int[] above = {41, 42, 100, Due.MOST};
        for (int n : above) {
            for (int sort = 0; sort < 3; sort++) {
                int t = sort;
                twins.refuse("39: sheet(1, " + t + ", " + n + ")", Due::rich,
                    x -> x.sheet(1, t, n), Due.BEYOND);
            }
        }
        int[] most = {39, 40};
        for (int n : most) {
            for (int sort = 0; sort < 3; sort++) {
                MarkedSweeps x = new MarkedSweeps();
                due.is("39: n is " + n, x.sheet(2, sort, n), n);
                due.is("40: the last of " + n, x.write(2, n - 1, 77), 1);
                due.is("41: the last of " + n, x.item(2, n - 1), 77);
                due.is("40: none behind it", x.write(2, n, 77), Due.BEYOND);
                due.is("41: none behind it", x.item(2, n), Due.LONG_BEYOND);
            }
        }
        MarkedSweeps all = new MarkedSweeps();
        for (int s = 0; s < 4; s++) {
            due.is("39: all four full", all.sheet(s, 2, 40), 40);
            for (int i = 0; i < 40; i++) {
                all.write(s, i, 1000L * s + i);
            }
        }
        for (int s = 0; s < 4; s++) {
            for (int i = 0; i < 40; i++) {
                due.is("41: of all four", all.item(s, i), 1000L * s + i);
            }
        }
    }

    /** "a row of n numbers of a sort, all 0". */
    private static void sheetAllZero() {
        for (int sort = 0; sort < 3; sort++) {
            MarkedSweeps x = new MarkedSweeps();
            x.sheet(0, sort, 40);
            for (int i = 0; i < 40; i++) {
                x.write(0, i, -1);
            }
            x.sheet(0, sort, 1);
            due.is("39: the first is 0", x.item(0, 0), 0);
            x.sheet(0, (sort + 1) % 3, 40);
            for (int i = 0; i < 40; i++) {
                due.is("39: all 0", x.item(0, i), 0);
            }
        }
    }

    /** "BEYOND: no such SHEET. MISSING." */
    private static void writeBeyondAndMissing() {
        int[] numbers = {-1, 0, 5, 40, Due.MOST, Due.LEAST};
        for (int i : numbers) {
            for (int s : NO_SHEET) {
                twins.refuse("40: write(" + s + ", " + i + ", 1)", Due::rich,
                    x -> x.write(s, i, 1), Due.BEYOND);
            }
            twins.refuse("40: MISSING, " + i, Due::rich, x -> x.write(3, i, 1), Due.MISSING);
        }
    }

    /** "BEYOND: no such number." */
    private static void writeNoSuchNumber() {
        int[] none = {-1, 5, 6, 39, 40, Due.MOST, Due.LEAST};
        for (int i : none) {
            twins.refuse("40: write(1, " + i + ", 1)", Due::rich, x -> x.write(1, i, 1),
                Due.BEYOND);
        }
        MarkedSweeps x = Due.rich();
        due.is("40: the first", x.write(1, 0, 100), 1);
        due.is("40: the last", x.write(1, 4, 104), 1);
        long[] want = {100, -6, 7, -8, 104};
        for (int i = 0; i < 5; i++) {
            due.is("40: that alone", x.item(1, i), want[i]);
        }
        Supplier<MarkedSweeps> without = () -> {
            MarkedSweeps y = new MarkedSweeps();
            y.sheet(0, 0, 0);
            return y;
        };
        twins.refuse("40: without numbers", without, y -> y.write(0, 0, 1), Due.BEYOND);
    }

    /** "v (its lowest bits)": each sort at its bounds. */
    private static void writeLowestBits() {
        long[] values = {127, 128, 255, 256, -128, -129, -256, 2147483647L, 2147483648L,
            4294967295L, 4294967296L, -2147483648L, -2147483649L, Long.MAX_VALUE, Long.MIN_VALUE,
            0, -1};
        long[] bytes = {127, -128, -1, 0, -128, 127, 0, -1, 0, -1, 0, 0, -1, -1, 0, 0, -1};
        long[] ints = {127, 128, 255, 256, -128, -129, -256, 2147483647L, -2147483648L, -1, 0,
            -2147483648L, 2147483647L, -1, 0, 0, -1};
        MarkedSweeps x = new MarkedSweeps();
        for (int sort = 0; sort < 3; sort++) {
            x.sheet(sort, sort, values.length);
            for (int i = 0; i < values.length; i++) {
                due.is("40: write", x.write(sort, i, values[i]), 1);
                due.is("40: " + values[i] + " in sort " + sort, x.item(sort, i),
                    sort == 0 ? bytes[i] : sort == 1 ? ints[i] : values[i]);
            }
        }
        due.is("40: no finding", x.status(-1), 0);
    }

    /** "BEYOND, MISSING, BEYOND likewise." */
    private static void itemRefused() {
        int[] numbers = {-1, 0, 5, 40, Due.MOST, Due.LEAST};
        for (int i : numbers) {
            for (int s : NO_SHEET) {
                twins.refuse("41: item(" + s + ", " + i + ")", Due::rich, x -> x.item(s, i),
                    Due.LONG_BEYOND);
            }
            twins.refuse("41: MISSING, " + i, Due::rich, x -> x.item(3, i), Due.LONG_MISSING);
        }
        int[] none = {-1, 5, 6, 39, 40, Due.MOST, Due.LEAST};
        for (int i : none) {
            twins.refuse("41: item(2, " + i + ")", Due::rich, x -> x.item(2, i), Due.LONG_BEYOND);
        }
        twins.answer("41: the first", Due::rich, x -> x.item(1, 0), 5);
        twins.answer("41: the last", Due::rich, x -> x.item(2, 4), 1L << 40);
    }

    /** A number that is like a finding is none. */
    private static void itemLikeFindings() {
        MarkedSweeps x = new MarkedSweeps();
        Due.lay(x, 0, 2, Due.LONG_MISSING, Due.BEYOND);
        due.is("41: like a finding", x.item(0, 0), Due.LONG_MISSING);
        due.is("41: like another", x.item(0, 1), Due.BEYOND);
        due.is("41: but none", x.status(-1), 0);
    }

    /** "BEYOND: no such SHEET (either)." */
    private static void copyNoSheet() {
        for (int s : NO_SHEET) {
            twins.refuse("42: copy from " + s, BoundsOfSheetsTest::rows,
                x -> x.copy(s, 0, 0, 0, 1), Due.BEYOND);
            twins.refuse("42: copy to " + s, BoundsOfSheetsTest::rows, x -> x.copy(0, 0, s, 0, 1),
                Due.BEYOND);
            twins.refuse("42: neither", BoundsOfSheetsTest::rows, x -> x.copy(s, 0, s, 0, 1),
                Due.BEYOND);
            twins.refuse("42: BEYOND, MISSING", BoundsOfSheetsTest::rows,
                x -> x.copy(s, 0, 3, 0, 1), Due.BEYOND);
            twins.refuse("42: MISSING, BEYOND", BoundsOfSheetsTest::rows,
                x -> x.copy(3, 0, s, 0, 1), Due.BEYOND);
        }
    }

    /** "MISSING." */
    private static void copyMissing() {
        int[][] which = {{3, 0}, {0, 3}, {3, 3}, {3, 2}, {2, 3}};
        for (int[] w : which) {
            twins.refuse("42: MISSING", BoundsOfSheetsTest::rows, x -> x.copy(w[0], 0, w[1], 0, 1),
                Due.MISSING);
            twins.refuse("42: MISSING, of none", BoundsOfSheetsTest::rows,
                x -> x.copy(w[0], 0, w[1], 0, 0), Due.MISSING);
            twins.refuse("42: MISSING, BEYOND", BoundsOfSheetsTest::rows,
                x -> x.copy(w[0], -1, w[1], 41, -1), Due.MISSING);
        }
    }

    /** "KIND: unlike sorts." */
    private static void copyKind() {
        for (int from = 0; from < 3; from++) {
            for (int to = 0; to < 3; to++) {
                int a = from;
                int b = to;
                Supplier<MarkedSweeps> made = () -> {
                    MarkedSweeps x = new MarkedSweeps();
                    Due.lay(x, 0, a, 1, 2);
                    Due.lay(x, 3, b, 3, 4);
                    return x;
                };
                if (a == b) {
                    due.is("42: like sorts", made.get().copy(0, 0, 3, 0, 2), 2);
                } else {
                    twins.refuse("42: unlike sorts", made, x -> x.copy(0, 0, 3, 0, 2), Due.KIND);
                    twins.refuse("42: of none", made, x -> x.copy(0, 0, 3, 0, 0), Due.KIND);
                    twins.refuse("42: KIND, BEYOND", made, x -> x.copy(0, 0, 3, 0, 3), Due.KIND);
                    twins.refuse("42: KIND, BEYOND", made, x -> x.copy(0, -1, 3, 0, 1), Due.KIND);
                }
            }
        }
    }

    /** "BEYOND: one has not so many, or i, j, n is below 0." */
    private static void copyNotSoMany() {
        int[][] beyond = {{0, 0, 1, 0, 4}, {1, 0, 0, 0, 4}, {0, 3, 1, 0, 3}, {0, 0, 1, 1, 3},
            {0, 5, 1, 0, 1}, {0, 0, 1, 3, 1}, {0, 0, 0, 0, 6}, {0, 1, 0, 0, 5}, {0, 0, 0, 1, 5},
            {0, -1, 1, 0, 1}, {0, 0, 1, -1, 1}, {0, 0, 1, 0, -1}, {0, -1, 1, -1, -1},
            {0, Due.LEAST, 1, 0, 1}, {0, 0, 1, Due.LEAST, 1}, {0, 0, 1, 0, Due.LEAST},
            {0, Due.MOST, 1, 0, 1}, {0, 0, 1, Due.MOST, 1}, {0, 0, 1, 0, Due.MOST},
            {0, Due.MOST, 1, Due.MOST, Due.MOST}, {0, 1, 0, 1, Due.MOST}, {0, -1, 0, 0, 0},
            {0, 0, 0, -1, 0}, {0, Due.MOST, 0, 0, 2}, {0, 0, 0, Due.MOST, 2}, {0, 40, 0, 0, 1}};
        for (int[] b : beyond) {
            twins.refuse("42: copy(" + b[0] + ", " + b[1] + ", " + b[2] + ", " + b[3] + ", " + b[4]
                + ")", BoundsOfSheetsTest::rows, x -> x.copy(b[0], b[1], b[2], b[3], b[4]),
                Due.BEYOND);
        }
        int[][] just = {{0, 0, 1, 0, 3}, {0, 2, 1, 0, 3}, {1, 0, 0, 2, 3}, {0, 4, 1, 2, 1},
            {0, 0, 0, 0, 5}, {2, 4, 2, 0, 1}};
        for (int[] b : just) {
            MarkedSweeps x = rows();
            due.is("42: just so many", x.copy(b[0], b[1], b[2], b[3], b[4]), b[4]);
            due.is("42: no finding", x.status(-1), 0);
            for (int at = 0; at < b[4]; at++) {
                due.is("42: they came", x.item(b[2], b[3] + at), rows().item(b[0], b[1] + at));
            }
        }
        MarkedSweeps full = new MarkedSweeps();
        full.sheet(0, 2, 40);
        full.sheet(1, 2, 40);
        full.write(0, 39, 5);
        due.is("42: all forty", full.copy(0, 0, 1, 0, 40), 40);
        due.is("42: the last of forty", full.item(1, 39), 5);
        due.is("42: forty and one", full.copy(0, 0, 1, 0, 41), Due.BEYOND);
    }

    /** None at all: from the first up to behind the last, not farther. */
    private static void copyNone() {
        for (int i = 0; i <= 5; i++) {
            for (int j = 0; j <= 3; j++) {
                int a = i;
                int b = j;
                twins.answer("42: none from " + i + " to " + j, BoundsOfSheetsTest::rows,
                    x -> x.copy(0, a, 1, b, 0), 0);
            }
        }
        twins.refuse("42: none from beyond the end", BoundsOfSheetsTest::rows,
            x -> x.copy(0, 6, 1, 0, 0), Due.BEYOND);
        twins.refuse("42: none to beyond the end", BoundsOfSheetsTest::rows,
            x -> x.copy(0, 0, 1, 4, 0), Due.BEYOND);
        Supplier<MarkedSweeps> without = () -> {
            MarkedSweeps x = new MarkedSweeps();
            x.sheet(0, 0, 0);
            return x;
        };
        twins.answer("42: of a row without numbers", without, x -> x.copy(0, 0, 0, 0, 0), 0);
        twins.refuse("42: one of such a row", without, x -> x.copy(0, 0, 0, 0, 1), Due.BEYOND);
    }

    /** "(or the same) .. as they all were". */
    private static void copyAsTheyWere() {
        for (int i = 0; i < 5; i++) {
            for (int j = 0; j < 5; j++) {
                int n = 5 - Math.max(i, j);
                MarkedSweeps x = rows();
                due.is("42: in the same one", x.copy(0, i, 0, j, n), n);
                for (int at = 0; at < 5; at++) {
                    boolean came = at >= j && at < j + n;
                    due.is("42: number " + at, x.item(0, at), came ? at - j + i + 1 : at + 1);
                }
            }
        }
    }

    /** SHEETS are no part of what is undone. */
    private static void noChanges() {
        MarkedSweeps x = rows();
        due.is("39: no CHANGE", x.count(2), 0);
        x.place(1, 1);
        x.write(0, 0, 50);
        x.copy(0, 0, 0, 1, 1);
        x.sheet(1, -1, 0);
        due.is("43: one CHANGE", x.count(2), 1);
        x.undo();
        due.is("40: stays", x.item(0, 0), 50);
        due.is("42: stays", x.item(0, 1), 50);
        due.is("39: stays", x.item(1, 0), Due.LONG_MISSING);
    }
}
