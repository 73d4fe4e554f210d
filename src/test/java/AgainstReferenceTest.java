import java.util.Random;

/** Runs of calls by a fixed seed: the class must answer each as the reference does. */
public final class AgainstReferenceTest {
    private static final int RUNS = 800;
    /** Some take several calls on the way: in all they stay near the document's 512. */
    private static final int CALLS = 240;
    private static final int[] ODD = {-2, -1, 0, 1, 2, 3, 4, 5, 6, 7, 8, 9, 10, 13, 40, 41, 99, 100,
        -99, -100, 780, Integer.MAX_VALUE, Integer.MIN_VALUE};
    private static final int[] FEWER_FIRST = {0, 0, 0, 1, 1, 2};

    private final Random random;
    private final MarkedSweeps made = new MarkedSweeps();
    private final Reference due = new Reference();
    private final int reach;
    private final int wrongShare;
    private final int atFirst;
    private String call = "";
    private long got;
    private long want;

    private AgainstReferenceTest(int run) {
        random = new Random(run);
        int[] reaches = {3, 6, 12, 40, 99};
        reach = reaches[run % reaches.length];
        wrongShare = run % 3 == 0 ? 5 : 40;
        atFirst = run % 4 == 0 ? 0 : 12;
    }

    public static void main(String[] args) {
        int wrong = 0;
        for (int run = 0; run < RUNS; run++) {
            AgainstReferenceTest test = new AgainstReferenceTest(run);
            for (int at = 0; at < CALLS; at++) {
                test.callOnce(at);
                if (test.got != test.want) {
                    System.out.println("run " + run + ", call " + at + ": " + test.call
                        + " answered " + test.got + ", due is " + test.want);
                    wrong++;
                    break;
                }
            }
        }
        System.exit(wrong == 0 ? 0 : 1);
    }

    private boolean odd() {
        return random.nextInt(wrongShare) == 0;
    }

    private int oddOne() {
        return ODD[random.nextInt(ODD.length)];
    }

    private int below(int bound) {
        return odd() || bound <= 0 ? oddOne() : random.nextInt(bound);
    }

    private int near() {
        return odd() ? oddOne() : random.nextInt(2 * reach + 1) - reach;
    }

    private int aPoint() {
        return below(Math.max(1, due.count(0)));
    }

    private int aNet() {
        return below(due.nets());
    }

    private long aLong() {
        switch (random.nextInt(5)) {
            case 0: return random.nextLong();
            case 1: return random.nextLong() >> random.nextInt(64);
            case 2: return Long.MAX_VALUE - random.nextInt(200);
            case 3: return Long.MIN_VALUE + random.nextInt(200);
            default: return random.nextInt(20) - 10;
        }
    }

    private void told(String what, long g, long w) {
        call = what;
        got = g;
        want = w;
    }

    private void callOnce(int at) {
        int kind = at < atFirst ? 0 : random.nextInt(60);
        if (kind < 14) {
            changeOnce(kind);
        } else if (kind < 34) {
            askNets(kind);
        } else if (kind < 46) {
            askMeasures(kind);
        } else {
            askSheets(kind);
        }
    }

    private void changeOnce(int kind) {
        int i = aPoint();
        int j = aPoint();
        int x = near();
        int y = near();
        if (kind < (atFirst == 0 ? 3 : 5)) {
            told("place " + x + " " + y, made.place(x, y), due.place(x, y));
        } else if (kind < 6) {
            told("drop", made.drop(), due.drop());
        } else if (kind == 6 || kind == 7) {
            told("move " + i + " " + x + " " + y, made.move(i, x, y), due.move(i, x, y));
        } else if (kind < 11) {
            int v = odd() ? oddOne() : FEWER_FIRST[random.nextInt(FEWER_FIRST.length)];
            told("mark " + i + " " + j + " " + v, made.mark(i, j, v), due.mark(i, j, v));
        } else if (kind == 11) {
            int sort = below(7);
            int n = odd() ? oddOne() : random.nextInt(199) - 99;
            told("step " + sort + " " + n, made.step(sort, n), due.step(sort, n));
        } else if (kind == 12) {
            boolean clears = random.nextInt(4) == 0;
            told(clears ? "clear" : "undo", clears ? made.clear() : made.undo(),
                clears ? due.clear() : due.undo());
        } else {
            told("undo", made.undo(), due.undo());
        }
    }

    private void askNets(int kind) {
        int i = aPoint();
        int j = aPoint();
        int a = aPoint();
        int b = aPoint();
        int k = aNet();
        int l = aNet();
        int small = below(2);
        int t = below(13);
        switch (kind) {
            case 14: told("at", made.at(i, t), due.at(i, t)); break;
            case 15: told("at", made.at(i, 2 + small), due.at(i, 2 + small)); break;
            case 16: told("markOf", made.markOf(i, j), due.markOf(i, j)); break;
            case 17: told("turn", made.turn(i, j, a), due.turn(i, j, a)); break;
            case 18: told("crosses", made.crosses(i, j, a, b), due.crosses(i, j, a, b)); break;
            case 19: told("hull", made.hull(t - 1), due.hull(t - 1)); break;
            case 20: told("nets", made.nets(), due.nets()); break;
            case 21: told("net " + k, made.net(k), due.net(k)); break;
            case 22: askRank(k); break;
            case 23: told("with", made.with(i, j), due.with(i, j)); break;
            case 24: told("always", made.always(small), due.always(small)); break;
            case 25: told("draw", made.draw(), due.draw()); break;
            case 26: told("fan", made.fan(k, i), due.fan(k, i)); break;
            case 27: told("flips", made.flips(k), due.flips(k)); break;
            case 28: askFlip(k, i, j); break;
            case 29: told("apart " + k + " " + l, made.apart(k, l), due.apart(k, l)); break;
            case 30: told("path " + k + " " + t, made.path(k, t), due.path(k, t)); break;
            case 31: told("advance", made.advance(k, t, small), due.advance(k, t, small)); break;
            case 32: told("ways", made.ways(), due.ways()); break;
            default: told("empty", made.empty(3 + t / 3), due.empty(3 + t / 3)); break;
        }
    }

    private void askRank(int k) {
        boolean there = k >= 0 && k < due.nets();
        long net = there && !odd() ? due.net(k) : aLong();
        net = odd() ? net ^ 1L << random.nextInt(64) : net;
        net = there && random.nextInt(8) == 0 ? due.net(k) + 1 : net;
        told("rank " + net, made.rank(net), due.rank(net));
    }

    private void askFlip(int k, int i, int j) {
        long can = k >= 0 && k < due.nets() ? due.flips(k) : 0;
        if (can != 0 && random.nextBoolean()) {
            int edge = Long.numberOfTrailingZeros(can);
            i = Reference.ends(edge)[1];
            j = Reference.ends(edge)[0];
        }
        told("flip " + k + " " + i + " " + j, made.flip(k, i, j), due.flip(k, i, j));
    }

    private void askMeasures(int kind) {
        int i = aPoint();
        int j = aPoint();
        int k = aNet();
        int rule = below(7);
        int fold = below(4);
        int v = random.nextInt();
        long big = aLong();
        int t = below(13);
        switch (kind) {
            case 34: told("stepOf", made.stepOf(t, fold), due.stepOf(t, fold)); break;
            case 35: told("chain " + big, made.chain(big), due.chain(big)); break;
            case 36: told("ofEdge", made.ofEdge(i, j, rule), due.ofEdge(i, j, rule)); break;
            case 37: case 38:
                told("ofNet", made.ofNet(k, rule, fold), due.ofNet(k, rule, fold)); break;
            case 39: told("best", made.best(rule, fold), due.best(rule, fold)); break;
            case 40: told("prove", made.prove(k), due.prove(k)); break;
            case 41: told("row", made.row(t, fold % 2), due.row(t, fold % 2)); break;
            case 42: told("judge", made.judge(k), due.judge(k)); break;
            case 43: told("alter", made.alter(t, fold, v), due.alter(t, fold, v)); break;
            case 44: told("count", made.count(rule), due.count(rule)); break;
            default: told("status", made.status(rule - 1), due.status(rule - 1)); break;
        }
    }

    private void askSheets(int kind) {
        int s = below(4);
        int t = below(4);
        int sort = odd() ? oddOne() : random.nextInt(3);
        int i = below(10);
        int j = below(10);
        int n = below(10);
        long v = random.nextBoolean() ? aPoint() : aLong();
        switch (kind) {
            case 46: told("sheet", made.sheet(s, sort, n), due.sheet(s, sort, n)); break;
            case 47: told("write", made.write(s, i, v), due.write(s, i, v)); break;
            case 48: told("item", made.item(s, i), due.item(s, i)); break;
            case 49: case 50:
                told("copy", made.copy(s, i, t, j, n), due.copy(s, i, t, j, n)); break;
            case 51: told("splits", made.splits(s), due.splits(s)); break;
            case 52: told("area", made.area(s), due.area(s)); break;
            case 53: told("within", made.within(s), due.within(s)); break;
            case 54: told("seed", made.seed((int) v), due.seed((int) v)); break;
            default: layPolygon(s, sort); break;
        }
    }

    /** Some POINTS in a row as they come: crossing or not, both are to be seen. */
    private void layPolygon(int s, int sort) {
        int points = due.count(0);
        if (points < 3 || s < 0 || s > 3 || sort < 0 || sort > 2) {
            return;
        }
        int[] some = new int[points];
        for (int i = 0; i < points; i++) {
            int spot = random.nextInt(i + 1);
            some[i] = some[spot];
            some[spot] = i;
        }
        int size = 3 + random.nextInt(points - 2);
        made.sheet(s, sort, size);
        due.sheet(s, sort, size);
        boolean sorted = random.nextInt(4) != 0;
        if (sorted) {
            sortRound(some, size);
        }
        for (int i = 0; i < size; i++) {
            made.write(s, i, some[i]);
            due.write(s, i, some[i]);
        }
        told("splits of a row", made.splits(s), due.splits(s));
        if (got == want) {
            told("area of a row", made.area(s), due.area(s));
        }
        if (got == want) {
            told("within a row", made.within(s), due.within(s));
        }
    }

    /** Round the first of them by angle: never crossing, often dented. */
    private void sortRound(int[] some, int size) {
        int hub = some[0];
        for (int i = 1; i < size; i++) {
            for (int j = i; j > 1 && angle(hub, some[j]) < angle(hub, some[j - 1]); j--) {
                int held = some[j];
                some[j] = some[j - 1];
                some[j - 1] = held;
            }
        }
        if (random.nextBoolean()) {
            for (int i = 0; i < size / 2; i++) {
                int held = some[i];
                some[i] = some[size - 1 - i];
                some[size - 1 - i] = held;
            }
        }
    }

    private double angle(int a, int b) {
        return Math.atan2(due.at(b, 1) - due.at(a, 1), due.at(b, 0) - due.at(a, 0));
    }
}
