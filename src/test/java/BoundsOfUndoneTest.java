import java.util.ArrayList;
import java.util.List;
import java.util.Random;
import java.util.function.Supplier;
import java.util.function.ToLongFunction;

/** The boundary cases of promises 43 to 46, sentence by sentence. */
public final class BoundsOfUndoneTest {
    private static final Due due = new Due();
    private static final Twins twins = new Twins(due);

    public static void main(String[] args) {
        undoNone();
        undoForty();
        undoBehindForty();
        undoAsAhead();
        undoEachChange();
        undoNoFindings();
        undoOnlyChanges();
        seedAny();
        countBeyond();
        countFewestAndMost();
        statusBeyond();
        statusCounts();
        statusStays();
        due.end();
    }

    /** "NONE: none can." */
    private static void undoNone() {
        twins.refuse("43: of a new one", MarkedSweeps::new, x -> x.undo(), Due.NONE);
        Supplier<MarkedSweeps> all = () -> {
            MarkedSweeps x = Due.rich();
            for (int i = 0; i < 11; i++) {
                x.undo();
            }
            return x;
        };
        twins.refuse("43: all are undone", all, x -> x.undo(), Due.NONE);
        MarkedSweeps x = Due.points(1, 1);
        due.is("43: one", x.undo(), 0);
        due.is("43: none", x.undo(), Due.NONE);
        due.is("43: an undo() is no CHANGE", x.count(2), 0);
    }

    /** "The latest 40 can be undone": 39, 40, 41 of them, and many more. */
    private static void undoForty() {
        int[] many = {1, 39, 40, 41, 42, 79, 80, 81, 120, 200};
        for (int n : many) {
            MarkedSweeps x = new MarkedSweeps();
            x.place(0, 0);
            x.undo();
            for (int i = 0; i < n; i++) {
                if (i == 0) {
                    x.place(-99, -99);
                } else {
                    x.move(0, i % 199 - 99, i / 199);
                }
                due.is("45: after " + (i + 1), x.count(2), Math.min(i + 1, 40));
            }
            int can = Math.min(n, 40);
            for (int left = can - 1; left >= 0; left--) {
                due.is("43: how many can still be", x.undo(), left);
                due.is("45: as many", x.count(2), left);
            }
            due.is("43: none can", x.undo(), Due.NONE);
            int stays = n - 40;
            due.is("43: the older ones stay", x.count(0), stays > 0 ? 1 : 0);
            if (stays > 0) {
                due.is("43: where it was", x.at(0, 0), (stays - 1) % 199 - 99);
            }
        }
    }

    /** Older ones are lost for good, also when later ones are undone and others come. */
    private static void undoBehindForty() {
        MarkedSweeps x = new MarkedSweeps();
        for (int i = 1; i <= 50; i++) {
            x.step(0, i);
            if (i % 8 == 0) {
                x.clear();
            }
        }
        due.is("43: forty", x.count(2), 40);
        for (int i = 0; i < 15; i++) {
            x.undo();
        }
        due.is("43: twenty-five", x.count(2), 25);
        for (int i = 0; i < 14; i++) {
            x.clear();
            due.is("43: one more", x.count(2), 26 + i);
        }
        x.clear();
        due.is("43: forty again", x.count(2), 40);
        x.clear();
        due.is("43: and no more", x.count(2), 40);
        for (int left = 39; left >= 0; left--) {
            due.is("43: how many can still be", x.undo(), left);
        }
        due.is("43: none", x.undo(), Due.NONE);
    }

    /** Any of the six, by a fixed seed; some will be refused. */
    private static ToLongFunction<MarkedSweeps> aChange(Random random) {
        int px = random.nextInt(203) - 101;
        int py = random.nextInt(199) - 99;
        int i = random.nextInt(7);
        int j = random.nextInt(7);
        int v = random.nextInt(3);
        switch (random.nextInt(10)) {
            case 0: case 1: case 2: return x -> x.place(px, py);
            case 3: return x -> x.drop();
            case 4: return x -> x.move(i, px, py);
            case 5: case 6: return x -> x.mark(i, j, v);
            case 7: case 8: return x -> x.step(i, py);
            default: return x -> x.clear();
        }
    }

    /** A new object by which all these CHANGES, and no others, were made. */
    private static MarkedSweeps by(List<ToLongFunction<MarkedSweeps>> changes) {
        MarkedSweeps x = new MarkedSweeps();
        for (ToLongFunction<MarkedSweeps> change : changes) {
            change.applyAsLong(x);
        }
        return x;
    }

    /**
     * "all POINTS, MARKS, STEPS are as ahead of it": back and forth; at the end all is as if what
     * was undone had never been.
     */
    private static void undoAsAhead() {
        for (int run = 0; run < 400; run++) {
            Random random = new Random(run);
            MarkedSweeps x = new MarkedSweeps();
            List<ToLongFunction<MarkedSweeps>> made = new ArrayList<>();
            int can = 0;
            int seldom = run % 3 == 0 ? 2 : run % 3 == 1 ? 4 : 30;
            for (int at = random.nextInt(270); at >= 0; at--) {
                if (random.nextInt(seldom) == 0) {
                    can = undoOnce(x, made, can);
                    continue;
                }
                ToLongFunction<MarkedSweeps> change = aChange(random);
                if (change.applyAsLong(x) > Due.BEYOND) {
                    made.add(change);
                    can = Math.min(can + 1, 40);
                }
            }
            due.same("43: as ahead of it", Twins.board(x), Twins.board(by(made)));
            while (can > 0) {
                can = undoOnce(x, made, can);
            }
            due.is("43: none can", x.undo(), Due.NONE);
            due.same("43: the older ones stay", Twins.board(x), Twins.board(by(made)));
        }
    }

    /** How many can still be undone then. */
    private static int undoOnce(MarkedSweeps x, List<ToLongFunction<MarkedSweeps>> made, int can) {
        if (can == 0) {
            due.is("43: none can", x.undo(), Due.NONE);
            return 0;
        }
        made.remove(made.size() - 1);
        due.is("43: how many can still be", x.undo(), can - 1);
        return can - 1;
    }

    private static void undone(String name, ToLongFunction<MarkedSweeps> change, long want) {
        MarkedSweeps x = Due.rich();
        String was = Twins.board(x);
        due.is("43: " + name, change.applyAsLong(x), want);
        due.is("43: " + name + " is a CHANGE", x.count(2), 12);
        due.is("43: " + name + " is undone", x.undo(), 11);
        due.same("43: " + name + " is undone", Twins.board(x), was);
        twins.alike("43: " + name + " is undone", x, Due.rich());
    }

    /** "CHANGES are: place, drop, move, mark, step, clear": those too that change nothing. */
    private static void undoEachChange() {
        undone("place", x -> x.place(50, 3), 6);
        undone("drop", x -> x.drop(), 5);
        undone("move", x -> x.move(5, 12, 10), 1);
        undone("move to where it is", x -> x.move(5, 11, 12), 1);
        undone("mark", x -> x.mark(0, 4, 0), 1);
        undone("mark as it is", x -> x.mark(0, 4, 1), 1);
        undone("step", x -> x.step(6, 0), 3);
        undone("clear", x -> x.clear(), 2);
        MarkedSweeps none = new MarkedSweeps();
        due.is("43: clear of none", none.clear(), 0);
        due.is("43: clear of none is a CHANGE", none.count(2), 1);
        due.is("43: clear of none is undone", none.undo(), 0);
    }

    /** ".. if they answer no finding". */
    private static void undoNoFindings() {
        MarkedSweeps x = Due.rich();
        x.place(100, 0);
        x.place(0, 0);
        x.move(6, 1, 1);
        x.move(1, 0, 0);
        x.mark(0, 0, 1);
        x.mark(0, 1, 3);
        x.step(7, 0);
        due.is("43: findings", x.status(-1), 9);
        due.is("43: no CHANGES", x.count(2), 11);
        MarkedSweeps crossed = Due.square();
        crossed.mark(0, 2, 1);
        crossed.mark(1, 3, 1);
        due.is("43: STATE of mark", crossed.count(2), 5);
        MarkedSweeps full = Due.bow(9);
        full.place(50, 7);
        due.is("43: FULL of place", full.count(2), 9);
        MarkedSweeps steps = new MarkedSweeps();
        for (int i = 0; i < 9; i++) {
            steps.step(0, 0);
        }
        due.is("43: FULL of step", steps.count(2), 8);
        MarkedSweeps none = new MarkedSweeps();
        none.drop();
        due.is("43: NONE of drop", none.count(2), 0);
        for (int i = 0; i < 9; i++) {
            full.undo();
        }
        due.is("43: all nine", full.count(0), 0);
    }

    /** Nothing else is a CHANGE. */
    private static void undoOnlyChanges() {
        MarkedSweeps x = Due.rich();
        x.draw();
        x.seed(3);
        x.prove(1);
        x.alter(0, 0, 1);
        x.sheet(3, 0, 5);
        x.write(3, 1, 1);
        x.copy(3, 1, 3, 0, 1);
        x.nets();
        x.flip(0, 0, 1);
        x.best(1, 0);
        due.is("43: no CHANGES", x.count(2), 11);
        due.is("43: the latest one is undone", x.undo(), 10);
        due.is("43: that was a STEP", x.count(1), 1);
        due.is("43: z stays", x.count(3), 3);
        due.is("43: ROWS stay", x.row(0, 0), 1);
        due.is("43: SHEETS stay", x.item(3, 0), 1);
    }

    /** "z becomes v: what it was": any int. */
    private static void seedAny() {
        int[] any = {0, -1, Due.MOST, Due.LEAST, Due.BEYOND, 1};
        MarkedSweeps x = new MarkedSweeps();
        int was = 1;
        for (int v : any) {
            due.is("44: what it was", x.seed(v), was);
            due.is("44: what it is", x.count(3), v);
            was = v;
        }
        due.is("44: no finding", x.status(-1), 0);
        twins.alike("44: nothing else", x, new MarkedSweeps());
    }

    /** "BEYOND": what is 0 to 6. */
    private static void countBeyond() {
        int[] beyond = {-1, 7, 8, Due.MOST, Due.LEAST};
        for (int what : beyond) {
            twins.refuse("45: count(" + what + ")", Due::rich, x -> x.count(what), Due.BEYOND);
        }
        int[] all = {6, 2, 11, 77, 6, 1, 2};
        for (int what = 0; what < 7; what++) {
            int w = what;
            twins.answer("45: count(" + what + ")", Due::rich, x -> x.count(w), all[w]);
        }
    }

    /** Each of them empty, and full. */
    private static void countFewestAndMost() {
        int[] none = {0, 0, 0, 1, 0, 0, 0};
        for (int what = 0; what < 7; what++) {
            int w = what;
            twins.answer("45: at first", MarkedSweeps::new, x -> x.count(w), none[w]);
        }
        MarkedSweeps barred = Due.bow(9);
        for (int i = 0; i < 9; i++) {
            for (int j = 0; j < i; j++) {
                barred.mark(i, j, 2);
            }
        }
        due.is("45: all are BARRED", barred.count(6), 36);
        due.is("45: none MUST be", barred.count(5), 0);
        MarkedSweeps tent = Due.tent();
        long net = tent.net(0);
        for (int i = 0; i < 9; i++) {
            for (int j = 0; j < i; j++) {
                tent.mark(i, j, (net & Due.edge(i, j)) != 0 ? 1 : 2);
            }
        }
        due.is("45: as many as MUST be", tent.count(5), 21);
        due.is("45: the rest", tent.count(6), 15);
        due.is("45: one NET", tent.nets(), 1);
        tent.prove(0);
        due.is("45: ROWS", tent.count(4), 13);
    }

    /** "BEYOND (counted from then on): another one." */
    private static void statusBeyond() {
        int[] beyond = {-2, 8, 9, Due.MOST, Due.LEAST};
        for (int which : beyond) {
            twins.refuse("46: status(" + which + ")", Due::rich, x -> x.status(which), Due.BEYOND);
        }
        MarkedSweeps x = new MarkedSweeps();
        due.is("46: another one", x.status(8), Due.BEYOND);
        due.is("46: counted from then on", x.status(0), 1);
        due.is("46: another one", x.status(-2), Due.BEYOND);
        due.is("46: counted from then on", x.status(-1), 2);
        for (int which = 1; which < 8; which++) {
            due.is("46: no other", x.status(which), 0);
        }
        due.is("46: asking counts nothing", x.status(-1), 2);
    }

    /** "which -1: all, 0 to 7: BEYOND to OVER." */
    private static void statusCounts() {
        MarkedSweeps x = Due.bow(9);
        x.sheet(0, 0, 1);
        x.sheet(1, 1, 1);
        for (int i = 0; i < 8; i++) {
            x.step(6, 0);
        }
        int[] times = {1, 2, 3, 4, 5, 6, 7, 8};
        for (int i = 0; i < 8; i++) {
            for (int at = 0; at < times[i]; at++) {
                tellOnce(x, i);
            }
        }
        int all = 0;
        for (int which = 0; which < 8; which++) {
            due.is("46: status(" + which + ")", x.status(which), times[which]);
            all += times[which];
        }
        due.is("46: status(-1)", x.status(-1), all);
    }

    /** An act that answers finding k. */
    private static void tellOnce(MarkedSweeps x, int k) {
        switch (k) {
            case 0: x.always(2); break;
            case 1: x.place(50, 7); break;
            case 2: x.copy(0, 0, 1, 0, 1); break;
            case 3: x.net(-1); break;
            case 4: x.move(0, 0, 0); break;
            case 5: x.item(3, 0); break;
            case 6: x.sheet(0, 0, -1); break;
            default: x.chain(2); break;
        }
    }

    /** "ever (undo() takes none back)". */
    private static void statusStays() {
        MarkedSweeps x = Due.rich();
        x.drop();
        x.place(-100, 0);
        due.is("46: all", x.status(-1), 3);
        for (int left = 11; left >= 0; left--) {
            due.is("43: undo()", x.undo(), left);
            due.is("46: undo() takes none back", x.status(-1), 3);
        }
        due.is("46: undo() of none", x.undo(), Due.NONE);
        due.is("46: is counted itself", x.status(3), 2);
    }
}
