/** Promises 21 to 23 and 35 to 38. */
public final class SweepsTest {
    private static final Due due = new Due();

    public static void main(String[] args) {
        path();
        advance();
        firstInOrder();
        ways();
        prove();
        row();
        alter();
        judge();
        due.end();
    }

    private static void path() {
        MarkedSweeps x = Due.square();
        int[][] paths = {{7, 5, 13}, {7, 15, 13}};
        for (int k = 0; k < 2; k++) {
            for (int t = 0; t < 3; t++) {
                due.is("21: path " + k + " " + t, x.path(k, t), paths[k][t]);
            }
        }
        due.is("21: path(0, 3)", x.path(0, 3), Due.NONE);
        due.is("21: path(0, -1)", x.path(0, -1), Due.NONE);
        due.is("21: path(0, most)", x.path(0, Due.MOST), Due.NONE);
        due.is("21: path(2, 0)", x.path(2, 0), Due.NONE);
        due.is("21: path(-1, 0)", x.path(-1, 0), Due.NONE);
        x.move(3, -5, 10);
        due.is("21: POINTS lie elsewhere", x.path(0, 0), 15);
        due.is("21: all above one EDGE", Due.points(0, 9, 9, 0, 8, 8).path(0, 0), 3);
        MarkedSweeps three = Due.points(0, 9, 9, 9, 5, 0);
        due.is("21: at first below", three.path(0, 0), 7);
        due.is("21: then the one above", three.path(0, 1), 3);
        due.is("21: no more", three.path(0, 2), Due.NONE);
    }

    private static void advance() {
        MarkedSweeps x = Due.square();
        int[][] sets = {{7, 13}, {11, 14}};
        int[][] sorts = {{1, 0}, {0, 1}};
        for (int k = 0; k < 2; k++) {
            for (int t = 0; t < 2; t++) {
                due.is("22: set " + k + " " + t, x.advance(k, t, 0), sets[k][t]);
                due.is("22: sort " + k + " " + t, x.advance(k, t, 1), sorts[k][t]);
            }
        }
        due.is("22: advance(0, 2, 0)", x.advance(0, 2, 0), Due.NONE);
        due.is("22: advance(0, -1, 0)", x.advance(0, -1, 0), Due.NONE);
        due.is("22: advance(2, 0, 0)", x.advance(2, 0, 0), Due.NONE);
        due.is("22: advance(0, 0, 2)", x.advance(0, 0, 2), Due.BEYOND);
        due.is("22: advance(0, 0, -1)", x.advance(0, 0, -1), Due.BEYOND);
        due.is("22: BEYOND ahead of NONE", x.advance(9, 9, 2), Due.BEYOND);
    }

    /** Where several ADVANCES can be taken, the one whose a is first is; and again from there. */
    private static void firstInOrder() {
        MarkedSweeps x = Due.bow(6);
        long net = Due.edge(0, 1) | Due.edge(1, 2) | Due.edge(2, 3) | Due.edge(3, 4)
            | Due.edge(4, 5) | Due.edge(0, 5) | Due.edge(0, 2) | Due.edge(3, 5) | Due.edge(0, 3);
        int k = x.rank(net);
        int[] sets = {0b000111, 0b001101, 0b111000, 0b101001};
        int[] paths = {0b111111, 0b111101, 0b111001, 0b101001, 0b100001};
        for (int t = 0; t < 4; t++) {
            due.is("22: of a bow " + t, x.advance(k, t, 0), sets[t]);
            due.is("22: sort of a bow " + t, x.advance(k, t, 1), 1);
            due.is("21: of a bow " + t, x.path(k, t), paths[t]);
        }
        due.is("21: of a bow, the last", x.path(k, 4), paths[4]);
        due.is("22: of a bow, the last", x.advance(k, 4, 0), Due.NONE);
    }

    private static void ways() {
        int[] many = {0, 0, 1, 2, 4, 8, 16, 32, 64, 128};
        for (int n = 0; n <= 9; n++) {
            due.is("23: of " + n, Due.bow(n).ways(), many[n]);
        }
        MarkedSweeps x = Due.square();
        x.mark(0, 1, 2);
        due.is("23: BARRED", x.ways(), 3);
        x.mark(0, 2, 2);
        due.is("23: BARRED both", x.ways(), 2);
        x.mark(1, 3, 1);
        due.is("23: MUST doesn't matter", x.ways(), 2);
        x.mark(0, 3, 2);
        due.is("23: none is left", x.ways(), 0);
        MarkedSweeps two = Due.points(0, 0, 0, 5);
        two.mark(0, 1, 2);
        due.is("23: of two, BARRED", two.ways(), 0);
    }

    private static void prove() {
        MarkedSweeps x = Due.square();
        due.is("35: none at first", x.count(4), 0);
        due.is("35: prove(2)", x.prove(2), Due.NONE);
        due.is("35: prove(-1)", x.prove(-1), Due.NONE);
        due.is("35: prove(1)", x.prove(1), 2);
        due.is("35: count(4)", x.count(4), 2);
        int[] rows = {11, 0, 14, 1};
        for (int i = 0; i < 4; i++) {
            due.is("35: row " + i / 2 + " " + i % 2, x.row(i / 2, i % 2), rows[i]);
        }
        due.is("35: prove(5)", x.prove(5), Due.NONE);
        due.is("35: they stay", x.row(0, 0), 11);
        MarkedSweeps most = Due.points(-90, -90, 90, -89, 1, 95, 0, 1, 3, 20, -7, 9, 11, -5, 5, 40,
            -3, -30);
        due.is("35: three outside of nine", most.hull(-1), 3);
        due.is("35: as many as TRIANGLES", most.prove(0), 13);
        most.drop();
        due.is("35: no CHANGE touches them", most.count(4), 13);
        most.undo();
        due.is("35: nor is that undone", most.count(4), 13);
    }

    private static void row() {
        MarkedSweeps x = Due.square();
        due.is("36: of none", x.row(0, 0), Due.BEYOND);
        x.prove(0);
        due.is("36: row(1, 0)", x.row(1, 0), 13);
        due.is("36: row(1, 1)", x.row(1, 1), 0);
        due.is("36: row(2, 0)", x.row(2, 0), Due.BEYOND);
        due.is("36: row(-1, 0)", x.row(-1, 0), Due.BEYOND);
        due.is("36: row(0, 2)", x.row(0, 2), Due.BEYOND);
        due.is("36: row(0, -1)", x.row(0, -1), Due.BEYOND);
    }

    private static void alter() {
        MarkedSweeps x = Due.square();
        due.is("37: of none", x.alter(0, 0, 1), Due.BEYOND);
        x.prove(0);
        due.is("37: alter(0, 0, most)", x.alter(0, 0, Due.MOST), 7);
        due.is("37: alter(0, 0, least)", x.alter(0, 0, Due.LEAST), Due.MOST);
        due.is("37: row(0, 0)", x.row(0, 0), Due.LEAST);
        due.is("37: alter(1, 1, 5)", x.alter(1, 1, 5), 0);
        due.is("37: row(1, 1)", x.row(1, 1), 5);
        due.is("37: the sweep itself is as it was", x.advance(0, 0, 0), 7);
        due.is("37: alter(2, 0, 0)", x.alter(2, 0, 0), Due.BEYOND);
        due.is("37: alter(-1, 0, 0)", x.alter(-1, 0, 0), Due.BEYOND);
        due.is("37: alter(0, 2, 0)", x.alter(0, 2, 0), Due.BEYOND);
        due.is("37: alter(0, -1, 0)", x.alter(0, -1, 0), Due.BEYOND);
        due.is("37: no CHANGE", x.count(2), 4);
    }

    private static void judge() {
        MarkedSweeps x = Due.square();
        due.is("38: the first lacks", x.judge(0), 1);
        x.prove(0);
        due.is("38: judge(0)", x.judge(0), 0);
        due.is("38: judge(1)", x.judge(1), 1);
        due.is("38: judge(2)", x.judge(2), Due.NONE);
        due.is("38: judge(-1)", x.judge(-1), Due.NONE);
        x.alter(1, 1, 1);
        due.is("38: a sort that isn't", x.judge(0), 2);
        x.alter(1, 1, 0);
        x.alter(1, 0, 12);
        due.is("38: a set that isn't", x.judge(0), 2);
        x.alter(1, 0, 13);
        due.is("38: all right again", x.judge(0), 0);
        MarkedSweeps shorter = Due.points(0, 0, 10, 1, 5, -8);
        shorter.prove(0);
        due.is("38: of one TRIANGLE", shorter.judge(0), 0);
        shorter.place(6, 30);
        due.is("38: the second lacks", shorter.judge(0), 2);
        shorter.prove(0);
        shorter.drop();
        due.is("38: the second is too many", shorter.judge(0), 2);
    }
}
