/** Promises 43 to 46. */
public final class UndoneTest {
    private static final Due due = new Due();

    public static void main(String[] args) {
        undo();
        eachChange();
        latestForty();
        notUndone();
        seed();
        count();
        status();
        due.end();
    }

    private static void undo() {
        MarkedSweeps x = new MarkedSweeps();
        due.is("43: of none", x.undo(), Due.NONE);
        x.place(1, 2);
        x.place(3, 4);
        due.is("43: undo()", x.undo(), 1);
        due.is("43: count(0)", x.count(0), 1);
        due.is("43: undo()", x.undo(), 0);
        due.is("43: count(0)", x.count(0), 0);
        due.is("43: undo() of none again", x.undo(), Due.NONE);
        due.is("43: findings are no CHANGES", x.place(100, 0), Due.BEYOND);
        due.is("43: none", x.undo(), Due.NONE);
    }

    private static void eachChange() {
        MarkedSweeps x = Due.square();
        x.mark(0, 2, 1);
        x.mark(2, 3, 2);
        x.step(1, 5);
        x.drop();
        due.is("43: changes", x.count(2), 8);
        due.is("43: of drop", x.undo(), 7);
        due.is("43: the POINT", x.at(3, 1), 10);
        due.is("43: its MARK", x.markOf(2, 3), 2);
        x.move(3, 1, 12);
        due.is("43: of move", x.undo(), 7);
        due.is("43: where it was", x.at(3, 0) * 100 + x.at(3, 1), 10);
        x.mark(0, 2, 2);
        due.is("43: of mark", x.undo(), 7);
        due.is("43: the MARK", x.markOf(0, 2), 1);
        x.clear();
        due.is("43: of clear", x.undo(), 7);
        due.is("43: the STEP", x.chain(2), 10);
        due.is("43: of step", x.undo(), 6);
        due.is("43: no STEP", x.chain(2), 2);
        due.is("43: of mark", x.undo(), 5);
        due.is("43: no MARK", x.markOf(2, 3), 0);
        due.is("43: nets", x.nets(), 1);
        x.undo();
        due.is("43: nets", x.nets(), 2);
        x.undo();
        due.is("43: nets", x.nets(), 1);
        x.undo();
        due.is("43: nets", x.nets(), 0);
    }

    private static void latestForty() {
        MarkedSweeps x = Due.square();
        for (int i = 0; i < 60; i++) {
            x.move(3, 0, 10 + i);
        }
        due.is("43: the latest", x.count(2), 40);
        for (int left = 39; left >= 20; left--) {
            due.is("43: undo()", x.undo(), left);
        }
        due.is("43: where it was", x.at(3, 1), 49);
        for (int i = 0; i < 30; i++) {
            x.step(0, i);
            x.clear();
        }
        due.is("43: filled again", x.count(2), 40);
        for (int left = 39; left >= 0; left--) {
            due.is("43: undo()", x.undo(), left);
        }
        due.is("43: none is left", x.undo(), Due.NONE);
        due.is("43: the older ones stay", x.at(3, 1), 49);
    }

    private static void notUndone() {
        MarkedSweeps x = Due.square();
        x.seed(5);
        x.prove(0);
        Due.lay(x, 0, 0, 4);
        x.undo();
        due.is("43: z stays", x.count(3), 5);
        due.is("43: ROWS stay", x.row(0, 0), 7);
        due.is("43: SHEETS stay", x.item(0, 0), 4);
        x.place(200, 0);
        x.undo();
        due.is("43: findings stay", x.status(-1), 1);
    }

    private static void seed() {
        MarkedSweeps x = new MarkedSweeps();
        due.is("44: seed(7)", x.seed(7), 1);
        due.is("44: seed(least)", x.seed(Due.LEAST), 7);
        due.is("44: seed(0)", x.seed(0), Due.LEAST);
        due.is("44: count(3)", x.count(3), 0);
        due.is("44: no CHANGE", x.count(2), 0);
    }

    private static void count() {
        MarkedSweeps x = Due.square();
        x.mark(0, 1, 1);
        x.mark(1, 2, 1);
        x.mark(0, 3, 2);
        x.mark(2, 3, 2);
        x.mark(1, 3, 2);
        x.step(0, 1);
        x.undo();
        x.step(0, 2);
        x.step(0, 3);
        x.seed(77);
        int[] counts = {4, 2, 11, 77, 0, 2, 3};
        for (int what = 0; what < 7; what++) {
            due.is("45: count(" + what + ")", x.count(what), counts[what]);
        }
        due.is("45: count(7)", x.count(7), Due.BEYOND);
        due.is("45: count(-1)", x.count(-1), Due.BEYOND);
        MarkedSweeps rows = Due.bow(7);
        rows.prove(3);
        due.is("45: ROWS", rows.count(4), 5);
    }

    private static void status() {
        MarkedSweeps x = new MarkedSweeps();
        x.at(0, 0);
        x.drop();
        x.net(0);
        x.sheet(0, 0, -1);
        x.write(0, 0, 0);
        x.sheet(0, 0, 1);
        x.sheet(1, 1, 1);
        x.copy(0, 0, 1, 0, 1);
        x.place(0, 0);
        x.place(0, 0);
        for (int i = 0; i < 8; i++) {
            x.step(6, 0);
        }
        x.step(6, 0);
        x.chain(2);
        int[] each = {1, 1, 1, 2, 1, 1, 1, 1};
        for (int which = 0; which < 8; which++) {
            due.is("46: status(" + which + ")", x.status(which), each[which]);
        }
        due.is("46: status(-1)", x.status(-1), 9);
        due.is("46: status(8)", x.status(8), Due.BEYOND);
        due.is("46: status(-2)", x.status(-2), Due.BEYOND);
        due.is("46: counted from then on", x.status(0), 3);
        due.is("46: all", x.status(-1), 11);
        x.undo();
        due.is("46: undo() takes none back", x.status(-1), 11);
    }
}
