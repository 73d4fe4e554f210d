/** Promises 1 to 10. */
public final class PointsTest {
    private static final Due due = new Due();

    public static void main(String[] args) {
        aNewObject();
        place();
        drop();
        move();
        moveAll();
        at();
        mark();
        markOf();
        turn();
        crosses();
        hull();
        due.end();
    }

    private static void aNewObject() {
        MarkedSweeps x = new MarkedSweeps();
        int[] counts = {0, 0, 0, 1, 0, 0, 0};
        for (int what = 0; what < counts.length; what++) {
            due.is("1: count(" + what + ")", x.count(what), counts[what]);
        }
        due.is("1: status(-1)", x.status(-1), 0);
        for (int s = 0; s < 4; s++) {
            due.is("1: item(" + s + ", 0)", x.item(s, 0), Due.LONG_MISSING);
        }
        due.is("1: chain(5)", x.chain(5), 5);
        MarkedSweeps other = Due.square();
        due.is("1: one beside another", x.count(0), 0);
        due.is("1: the other", other.count(0), 4);
    }

    private static void place() {
        MarkedSweeps x = new MarkedSweeps();
        due.is("2: place(-99, 99)", x.place(-99, 99), 0);
        due.is("2: place(99, -98)", x.place(99, -98), 1);
        due.is("2: place(100, 0)", x.place(100, 0), Due.BEYOND);
        due.is("2: place(-100, 0)", x.place(-100, 0), Due.BEYOND);
        due.is("2: place(0, 100)", x.place(0, 100), Due.BEYOND);
        due.is("2: place(0, -100)", x.place(0, -100), Due.BEYOND);
        due.is("2: place(least, most)", x.place(Due.LEAST, Due.MOST), Due.BEYOND);
        due.is("2: place the same", x.place(-99, 99), Due.STATE);
        due.is("2: count(0)", x.count(0), 2);
        MarkedSweeps line = Due.points(0, 0, 2, 1);
        due.is("2: behind on the line", line.place(4, 2), Due.STATE);
        due.is("2: ahead on the line", line.place(-2, -1), Due.STATE);
        due.is("2: beside the line", line.place(4, 3), 2);
        MarkedSweeps full = Due.bow(9);
        due.is("2: FULL", full.place(50, 7), Due.FULL);
        due.is("2: FULL ahead of STATE", full.place(0, 0), Due.FULL);
        due.is("2: BEYOND ahead of FULL", full.place(100, 0), Due.BEYOND);
        due.is("2: changes", full.count(2), 9);
    }

    private static void drop() {
        MarkedSweeps x = Due.square();
        x.mark(0, 3, 1);
        x.mark(2, 3, 2);
        x.mark(0, 1, 2);
        due.is("3: drop()", x.drop(), 3);
        due.is("3: MUST", x.count(5), 0);
        due.is("3: BARRED", x.count(6), 1);
        due.is("3: markOf(0, 1)", x.markOf(0, 1), 2);
        due.is("3: no such POINT", x.at(3, 0), Due.BEYOND);
        due.is("3: place again", x.place(1, 12), 3);
        due.is("3: markOf(0, 3)", x.markOf(0, 3), 0);
        due.is("3: markOf(2, 3)", x.markOf(2, 3), 0);
        x.drop();
        due.is("3: drop()", x.drop(), 2);
        due.is("3: drop()", x.drop(), 1);
        due.is("3: drop()", x.drop(), 0);
        due.is("3: drop() of none", x.drop(), Due.NONE);
        due.is("3: place anew", x.place(10, 10), 0);
    }

    private static void move() {
        MarkedSweeps x = Due.square();
        due.is("4: move(2, 12, 13)", x.move(2, 12, 13), 1);
        due.is("4: x", x.at(2, 0), 12);
        due.is("4: y", x.at(2, 1), 13);
        due.is("4: where it is", x.move(2, 12, 13), 1);
        due.is("4: changes", x.count(2), 6);
        due.is("4: on its own old line", x.move(2, 10, 9), 1);
        int[][] beyond = {{-1, 0, 0}, {4, 0, 0}, {9, 0, 0}, {Due.MOST, 0, 0}, {Due.LEAST, 0, 0},
            {0, 100, 0}, {0, -100, 0}, {0, 0, 100}, {0, 0, -100}};
        for (int[] b : beyond) {
            due.is("4: move " + b[0] + " " + b[1] + " " + b[2], x.move(b[0], b[1], b[2]),
                Due.BEYOND);
        }
        due.is("4: the same as another", x.move(2, 0, 10), Due.STATE);
        due.is("4: on a line with two", x.move(2, 20, 0), Due.STATE);
        due.is("4: nothing changed", x.at(2, 0) * 100 + x.at(2, 1), 1009);
        x.mark(0, 2, 1);
        due.is("4: MUST stays alone", x.move(1, 3, 20), 1);
        x.mark(1, 3, 1);
        due.is("4: MUST would CROSS", x.move(1, 11, 1), Due.STATE);
        due.is("4: MUST would CROSS, from the other", x.move(2, 1, 99), Due.STATE);
        x.mark(1, 3, 2);
        due.is("4: BARRED may CROSS", x.move(1, 11, 1), 1);
        due.is("4: new nets", x.nets(), 1);
    }

    /** All POINTS come to lie elsewhere before anything is asked that hangs on where they lie. */
    private static void moveAll() {
        int[][] first = {{-5, 2}, {6, 3}, {1, 9}};
        for (int axis = 0; axis < 2; axis++) {
            MarkedSweeps x = Due.points(-5, 2, 6, 3, 1, 9);
            due.is("4: at first", x.turn(0, 1, 2), 1);
            for (int i = 0; i < 3; i++) {
                int px = axis == 0 ? -first[i][0] : first[i][0];
                int py = axis == 1 ? -first[i][1] : first[i][1];
                due.is("4: to the other side", x.move(i, px, py), 1);
            }
            due.is("4: all turned over", x.turn(0, 1, 2), -1);
            due.is("4: THE HULL", x.hull(0), axis == 0 ? 1 : 0);
        }
    }

    private static void at() {
        MarkedSweeps x = Due.points(5, -3, 5, -7, -2, 4, 3, -2);
        due.is("5: x", x.at(0, 0), 5);
        due.is("5: y", x.at(0, 1), -3);
        int[] places = {3, 2, 0, 1};
        int[] hull = {1, 1, 1, 0};
        for (int i = 0; i < 4; i++) {
            due.is("5: place of " + i, x.at(i, 2), places[i]);
            due.is("5: hull of " + i, x.at(i, 3), hull[i]);
        }
        due.is("5: at(4, 0)", x.at(4, 0), Due.BEYOND);
        due.is("5: at(-1, 0)", x.at(-1, 0), Due.BEYOND);
        due.is("5: at(0, 4)", x.at(0, 4), Due.BEYOND);
        due.is("5: at(0, -1)", x.at(0, -1), Due.BEYOND);
        MarkedSweeps one = Due.points(7, 7);
        due.is("5: place of the only one", one.at(0, 2), 0);
        due.is("5: the only one is of THE HULL", one.at(0, 3), 1);
        one.place(6, 9);
        due.is("5: place of the first of two", one.at(0, 2), 1);
        due.is("5: each of two is of THE HULL", one.at(1, 3), 1);
    }

    private static void mark() {
        MarkedSweeps x = Due.square();
        due.is("6: mark(0, 2, 1)", x.mark(0, 2, 1), 0);
        due.is("6: mark(2, 0, 2)", x.mark(2, 0, 2), 1);
        due.is("6: mark(0, 2, 0)", x.mark(0, 2, 0), 2);
        due.is("6: mark(0, 2, 1)", x.mark(0, 2, 1), 0);
        due.is("6: mark(0, 2, 1) again", x.mark(0, 2, 1), 1);
        due.is("6: changes", x.count(2), 9);
        due.is("6: would CROSS", x.mark(3, 1, 1), Due.STATE);
        due.is("6: BARRED may CROSS", x.mark(3, 1, 2), 0);
        due.is("6: BARRED to MUST would CROSS", x.mark(3, 1, 1), Due.STATE);
        due.is("6: the MARK is as it was", x.markOf(1, 3), 2);
        due.is("6: sharing an end", x.mark(0, 1, 1), 0);
        x.mark(0, 2, 0);
        due.is("6: nothing to CROSS any more", x.mark(1, 3, 1), 2);
        int[][] beyond = {{0, 0, 1}, {0, 4, 1}, {4, 0, 1}, {-1, 0, 1}, {0, -1, 1}, {0, 1, 3},
            {0, 1, -1}, {Due.MOST, Due.LEAST, 1}};
        for (int[] b : beyond) {
            due.is("6: mark " + b[0] + " " + b[1] + " " + b[2], x.mark(b[0], b[1], b[2]),
                Due.BEYOND);
        }
        due.is("6: BEYOND ahead of STATE", x.mark(0, 2, 3), Due.BEYOND);
    }

    private static void markOf() {
        MarkedSweeps x = Due.bow(9);
        int v = 0;
        for (int i = 0; i < 9; i++) {
            for (int j = i + 1; j < 9; j++) {
                due.is("7: at first", x.markOf(i, j), 0);
                v = j == i + 1 ? 1 : 2;
                due.is("7: mark " + i + " " + j, x.mark(j, i, v), 0);
            }
        }
        for (int i = 0; i < 9; i++) {
            for (int j = 0; j < 9; j++) {
                int want = i == j ? Due.BEYOND : Math.abs(i - j) == 1 ? 1 : 2;
                due.is("7: markOf " + i + " " + j, x.markOf(i, j), want);
            }
        }
        due.is("7: markOf(9, 0)", x.markOf(9, 0), Due.BEYOND);
        due.is("7: markOf(0, -1)", x.markOf(0, -1), Due.BEYOND);
        due.is("7: MUST", x.count(5), 8);
        due.is("7: BARRED", x.count(6), 28);
    }

    private static void turn() {
        MarkedSweeps x = Due.square();
        due.is("8: left", x.turn(0, 1, 2), 1);
        due.is("8: left", x.turn(2, 0, 1), 1);
        due.is("8: right", x.turn(0, 3, 2), -1);
        int[][] beyond = {{0, 0, 1}, {0, 1, 0}, {1, 0, 0}, {4, 0, 1}, {0, 4, 1}, {0, 1, 4},
            {-1, 0, 1}, {0, -1, 1}, {0, 1, -1}, {Due.MOST, Due.LEAST, 0}};
        for (int[] b : beyond) {
            due.is("8: turn " + b[0] + " " + b[1] + " " + b[2], x.turn(b[0], b[1], b[2]),
                Due.BEYOND);
        }
    }

    private static void crosses() {
        MarkedSweeps x = Due.square();
        x.place(30, 33);
        due.is("9: diagonals", x.crosses(0, 2, 1, 3), 1);
        due.is("9: either way", x.crosses(3, 1, 2, 0), 1);
        due.is("9: sides", x.crosses(0, 1, 2, 3), 0);
        due.is("9: one line parts the ends, not the other", x.crosses(1, 3, 2, 4), 0);
        due.is("9: an end in common", x.crosses(0, 2, 2, 4), 0);
        due.is("9: one and the same EDGE", x.crosses(0, 2, 0, 2), 0);
        int[][] beyond = {{0, 0, 1, 2}, {1, 2, 3, 3}, {5, 0, 1, 2}, {0, 5, 1, 2}, {0, 1, 5, 2},
            {0, 1, 2, 5}, {-1, 0, 1, 2}, {0, 1, 2, -1}};
        for (int[] b : beyond) {
            due.is("9: crosses " + b[0] + " " + b[1] + " " + b[2] + " " + b[3],
                x.crosses(b[0], b[1], b[2], b[3]), Due.BEYOND);
        }
    }

    private static void hull() {
        MarkedSweeps x = new MarkedSweeps();
        due.is("10: of none", x.hull(-1), 0);
        due.is("10: hull(0) of none", x.hull(0), Due.NONE);
        x.place(4, 4);
        due.is("10: of one", x.hull(-1), 1);
        due.is("10: hull(0) of one", x.hull(0), 0);
        x.place(4, 1);
        due.is("10: of two", x.hull(-1), 2);
        due.is("10: hull(0) of two", x.hull(0), 1);
        due.is("10: hull(1) of two", x.hull(1), 0);
        MarkedSweeps dented = Due.points(10, 10, 0, 0, 4, 3, 10, 0, 0, 10);
        int[] hull = {1, 3, 0, 4};
        due.is("10: hull(-1)", dented.hull(-1), 4);
        for (int k = 0; k < 4; k++) {
            due.is("10: hull(" + k + ")", dented.hull(k), hull[k]);
        }
        due.is("10: hull(4)", dented.hull(4), Due.NONE);
        due.is("10: hull(-2)", dented.hull(-2), Due.NONE);
        due.is("10: hull(most)", dented.hull(Due.MOST), Due.NONE);
        due.is("10: a bow", Due.bow(9).hull(-1), 9);
    }
}
