/** The boundary cases that the document's Terms name, sentence by sentence. */
public final class BoundsOfTermsTest {
    private static final Due due = new Due();
    private static final Twins twins = new Twins(due);

    public static void main(String[] args) {
        richIsRich();
        calls();
        findingsOfInts();
        findingsOfLongs();
        noThreeOnALine();
        order();
        turns();
        edgeNumbers();
        crossing();
        marksAtFirst();
        mustNeverCross();
        netsFromThree();
        leastNumberFirst();
        triangles();
        hull();
        flips();
        sweepsBegin();
        sweepsEnd();
        draws();
        due.end();
    }

    /** What the twins of all these tests are made of must have something of everything. */
    private static void richIsRich() {
        MarkedSweeps x = Due.rich();
        int[] counts = {6, 2, 11, 77, 6, 1, 2};
        for (int what = 0; what < 7; what++) {
            due.is("rich: count(" + what + ")", x.count(what), counts[what]);
        }
        due.is("rich: findings", x.status(-1), 2);
        due.is("rich: nets", x.nets(), 3);
        due.same("rich: sheets", Twins.sheets(x), "SHEET 0 1 2 -1000000000000000001 bytes "
            + "SHEET 5 -6 7 -8 1073741824 -1000000000000000001 ints "
            + "SHEET 0 1 2 3 1099511627776 -1000000000000000001 longs "
            + "SHEET -1000000000000000006 ");
    }

    /** "An object is used for at most 512 calls": the last of these is answered like the first. */
    private static void calls() {
        MarkedSweeps refused = new MarkedSweeps();
        for (int i = 0; i < 511; i++) {
            refused.drop();
        }
        due.is("calls: the 512th tells of all 511", refused.status(3), 511);
        MarkedSweeps changed = Due.square();
        for (int i = 0; i < 506; i++) {
            changed.mark(0, 2, i % 3);
        }
        due.is("calls: the 511th", changed.count(2), 40);
        due.is("calls: the 512th", changed.mark(0, 2, 0), 505 % 3);
    }

    /** "FINDINGS are answers LOW - k, LOW being -1000001 .. k 0 BEYOND, .. 7 OVER." */
    private static void findingsOfInts() {
        MarkedSweeps x = Due.bow(9);
        due.is("findings: BEYOND", x.place(100, 0), -1000001);
        due.is("findings: FULL", x.place(50, 7), -1000002);
        x.sheet(0, 0, 1);
        x.sheet(1, 1, 1);
        due.is("findings: KIND", x.copy(0, 0, 1, 0, 1), -1000003);
        due.is("findings: NONE", x.rank(0), -1000004);
        due.is("findings: STATE", x.move(0, 0, 0), -1000005);
        due.is("findings: MISSING", x.write(3, 0, 0), -1000006);
        due.is("findings: SIZE", x.sheet(0, 0, -1), -1000007);
        for (int i = 0; i < 8; i++) {
            x.step(6, 0);
        }
        due.is("findings: OVER", x.best(1, 0), -1000008);
        for (int which = 0; which < 8; which++) {
            due.is("findings: status(" + which + ")", x.status(which), 1);
        }
    }

    /** ".. of those that answer longs -1000000000000000001". */
    private static void findingsOfLongs() {
        MarkedSweeps x = new MarkedSweeps();
        due.is("findings: BEYOND of always", x.always(2), -1000000000000000001L);
        due.is("findings: BEYOND of ofEdge", x.ofEdge(0, 1, 0), -1000000000000000001L);
        due.is("findings: BEYOND of ofNet", x.ofNet(0, 7, 0), -1000000000000000001L);
        due.is("findings: BEYOND of item", x.item(4, 0), -1000000000000000001L);
        due.is("findings: NONE of always", x.always(0), -1000000000000000004L);
        due.is("findings: NONE of net", x.net(0), -1000000000000000004L);
        due.is("findings: NONE of flips", x.flips(0), -1000000000000000004L);
        due.is("findings: NONE of ofNet", x.ofNet(0, 0, 0), -1000000000000000004L);
        due.is("findings: MISSING of item", x.item(0, 0), -1000000000000000006L);
        x.step(6, 0);
        due.is("findings: OVER of chain", x.chain(Long.MAX_VALUE), -1000000000000000008L);
        int[] each = {4, 0, 0, 4, 0, 1, 0, 1};
        for (int which = 0; which < 8; which++) {
            due.is("findings: of longs, status(" + which + ")", x.status(which), each[which]);
        }
        due.is("findings: of longs, status(-1)", x.status(-1), 10);
    }

    /** "no three lie on one line": the slimmest that is none, at the widest. */
    private static void noThreeOnALine() {
        int[][] beside = {{0, 1}, {0, -1}, {1, 0}, {-1, 0}, {98, 99}, {99, 98}, {-98, -99}};
        for (int[] b : beside) {
            MarkedSweeps x = Due.points(-99, -99, 99, 99);
            due.is("line: beside it", x.place(b[0], b[1]), 2);
            due.is("line: so they turn", x.turn(0, 1, 2), b[1] > b[0] ? 1 : -1);
        }
        for (int at = -98; at < 99; at += 14) {
            int on = at;
            twins.refuse("line: on it", () -> Due.points(-99, -99, 99, 99), x -> x.place(on, on),
                Due.STATE);
        }
        MarkedSweeps slim = Due.points(-99, -99, 99, 98);
        due.is("line: one less of twice the area", slim.place(0, 0), 2);
        due.is("line: left", slim.turn(0, 1, 2), 1);
    }

    /** "ORDER: the lesser x first, of like x the lesser y." */
    private static void order() {
        MarkedSweeps x = Due.points(0, 2, 0, 1, -99, 99, 99, -99, -99, 98, 99, -98);
        int[] places = {3, 2, 1, 4, 0, 5};
        for (int i = 0; i < 6; i++) {
            due.is("order: place of " + i, x.at(i, 2), places[i]);
        }
        due.is("order: THE HULL begins with the first", x.hull(0), 4);
    }

    /** "TURN of a, b, c: 1 (left), if .. is above 0, else -1 (right)": nearest to 0, farthest. */
    private static void turns() {
        MarkedSweeps near = Due.points(0, 0, 1, 0, 0, 1);
        due.is("turn: by 1", near.turn(0, 1, 2), 1);
        due.is("turn: by -1", near.turn(0, 2, 1), -1);
        MarkedSweeps far = Due.points(-99, -99, 99, -99, 99, 99, -99, 99);
        due.is("turn: by 39204", far.turn(0, 1, 2), 1);
        due.is("turn: by -39204", far.turn(3, 2, 1), -1);
    }

    /** "(0, 1) is 0, (0, 2) is 1, .. (0, 8) is 7, (1, 2) is 8, .. (7, 8) is 35; however many .." */
    private static void edgeNumbers() {
        due.is("edges: of three POINTS", Due.bow(3).net(0), 1L | 1L << 1 | 1L << 8);
        due.is("edges: of THE HULL of nine", Due.bow(9).always(0),
            1L | 1L << 7 | 1L << 8 | 1L << 15 | 1L << 21 | 1L << 26 | 1L << 30 | 1L << 33
            | 1L << 35);
        due.is("edges: all of nine", Due.bow(9).always(1), (1L << 36) - 1);
        for (int last = 1; last < 9; last++) {
            MarkedSweeps x = Due.bow(last + 1);
            long before = Due.bow(last).nets() > 0 ? Due.bow(last).always(1) : last == 2 ? 1 : 0;
            long more = last < 2 ? 0 : x.always(1) & ~before;
            due.is("edges: that a POINT brings", Long.bitCount(more), last < 2 ? 0 : last);
            due.is("edges: the last that it brings", last < 2 ? 0 : more >>> Due.lastEdge(last),
                last < 2 ? 0 : 1);
        }
        MarkedSweeps x = Due.bow(9);
        x.mark(7, 8, 2);
        due.is("edges: 35 is (7, 8)", x.nets(), 0);
    }

    /** "no POINT in common and the ends of each lie on unlike sides of the other". */
    private static void crossing() {
        MarkedSweeps x = Due.points(-10, 0, 10, 0, 0, 1, 0, -1, 30, 1, 30, -3);
        due.is("cross: both parted", x.crosses(0, 1, 2, 3), 1);
        due.is("cross: only the second is parted", x.crosses(0, 1, 4, 5), 0);
        due.is("cross: only the first is parted", x.crosses(4, 5, 0, 1), 0);
        due.is("cross: neither", x.crosses(2, 4, 3, 5), 0);
        due.is("cross: an end of each in common", x.crosses(0, 2, 2, 1), 0);
        due.is("cross: both ends in common", x.crosses(0, 1, 1, 0), 0);
        MarkedSweeps tight = Due.points(0, 0, 99, 1, 1, 1, 98, -1);
        due.is("cross: just so", tight.crosses(0, 1, 2, 3), 1);
        MarkedSweeps missed = Due.points(0, 0, 99, 1, 1, 1, -1, -1);
        due.is("cross: three on a line are refused", missed.count(0), 3);
        missed.place(-2, -1);
        due.is("cross: just not so", missed.crosses(0, 1, 2, 3), 0);
    }

    /** "Each EDGE has a MARK: 0 none (at first, also of POINTS that come later)". */
    private static void marksAtFirst() {
        MarkedSweeps x = Due.bow(8);
        for (int i = 0; i < 8; i++) {
            for (int j = i + 1; j < 8; j++) {
                due.is("marks: at first", x.mark(i, j, 2), 0);
            }
        }
        due.is("marks: one POINT more", x.place(4, 16), 8);
        for (int i = 0; i < 8; i++) {
            due.is("marks: of one that comes later", x.markOf(i, 8), 0);
            x.mark(i, 8, 2);
        }
        due.is("marks: all are BARRED", x.count(6), 36);
        x.drop();
        due.is("marks: the last POINT's are gone", x.count(6), 28);
        x.place(4, 16);
        for (int i = 0; i < 8; i++) {
            due.is("marks: of one that comes again", x.markOf(8, i), 0);
        }
    }

    /** "EDGES that MUST be never CROSS": whatever is tried, all that MUST be can be in one NET. */
    private static void mustNeverCross() {
        MarkedSweeps x = Due.bow(9);
        int most = 0;
        for (int i = 0; i < 9; i++) {
            for (int j = i + 1; j < 9; j++) {
                boolean taken = x.mark(i, j, 1) == 0;
                most += taken ? 1 : 0;
                due.is("must: refused if nothing else", x.markOf(i, j), taken ? 1 : 0);
            }
        }
        due.is("must: as many as a NET has", most, 15);
        due.is("must: one NET alone", x.nets(), 1);
        due.is("must: all of it", x.always(0), x.net(0));
        due.is("must: told as STATE", x.status(4), 21);
    }

    /** "NETS (with 3 POINTS or more)". */
    private static void netsFromThree() {
        for (int points = 0; points < 3; points++) {
            int many = points;
            twins.answer("nets: of " + points, () -> Due.bow(many), x -> x.nets(), 0);
            twins.refuse("nets: net(0) of " + points, () -> Due.bow(many), x -> x.net(0),
                Due.LONG_NONE);
            twins.refuse("nets: the empty set of " + points, () -> Due.bow(many), x -> x.rank(0),
                Due.NONE);
            twins.refuse("nets: the one EDGE of " + points, () -> Due.bow(many), x -> x.rank(1),
                Due.NONE);
        }
        twins.answer("nets: of 3", () -> Due.bow(3), x -> x.nets(), 1);
        twins.answer("nets: rank of 3", () -> Due.bow(3), x -> x.rank(259), 0);
    }

    /** "NETS are numbered from 0 on, the one that is the least number first": as longs. */
    private static void leastNumberFirst() {
        due.is("least first: how many", Due.crowd().nets(), 780);
        boolean beyondInts = false;
        long before = -1;
        for (int from = 0; from < 780; from += 390) {
            MarkedSweeps x = Due.crowd();
            for (int k = from; k < from + 390; k++) {
                long net = x.net(k);
                due.is("least first: " + k, net > before ? 1 : 0, 1);
                beyondInts = beyondInts || k > 0 && net >>> 32 != before >>> 32;
                before = net;
            }
        }
        due.is("least first: by what no int holds", beyondInts ? 1 : 0, 1);
    }

    /** "three POINTS, all EDGES of which it has, none other being WITHIN them". */
    private static void triangles() {
        MarkedSweeps x = Due.points(0, 0, 10, 0, 3, 10, 4, 3);
        for (int i = 0; i < 3; i++) {
            due.is("triangles: not the outer one", x.fan(0, i), 2);
        }
        due.is("triangles: the three inner ones", x.fan(0, 3), 3);
        due.is("triangles: swept", x.prove(0), 3);
        MarkedSweeps three = Due.bow(3);
        due.is("triangles: the outer one, if it is bare", three.fan(0, 0), 1);
    }

    /** "POINTS that are not WITHIN three others, beginning with the first in ORDER, .. left." */
    private static void hull() {
        MarkedSweeps x = Due.points(-99, -99, 99, -99, 99, 99, -99, 99, 98, 97, -98, 0);
        int[] all = {0, 1, 2, 3};
        for (int k = 0; k < 4; k++) {
            due.is("hull: " + k, x.hull(k), all[k]);
            due.is("hull: at", x.at(k, 3), 1);
        }
        due.is("hull: just within", x.at(4, 3), 0);
        due.is("hull: just within the left side", x.at(5, 3), 0);
        due.is("hull: moved just out", Due.points(0, 0, 10, 0, 5, 9, 5, -1).at(3, 3), 1);
        due.is("hull: moved just in", Due.points(0, 0, 10, 0, 5, 9, 5, 1).at(3, 3), 0);
    }

    /** "if a, b, c and a, b, d are TRIANGLES .. and EDGE c, d CROSSES it, .. makes a NET". */
    private static void flips() {
        MarkedSweeps convex = Due.points(0, 0, 10, -1, 10, 10, 0, 10);
        due.is("flips: one", convex.flips(0), Due.edge(0, 2));
        MarkedSweeps dented = Due.points(0, 0, 10, -1, 10, 10, 6, 5);
        due.is("flips: c, d doesn't CROSS", dented.flips(0), 0);
        due.is("flips: so there is one NET", dented.nets(), 1);
        MarkedSweeps three = Due.bow(3);
        for (int i = 0; i < 3; i++) {
            due.is("flips: no second TRIANGLE", three.flip(0, i, (i + 1) % 3), Due.NONE);
        }
        convex.mark(1, 3, 2);
        due.is("flips: that makes no NET, BARRED", convex.flip(0, 0, 2), Due.NONE);
        convex.mark(1, 3, 0);
        convex.mark(0, 2, 1);
        due.is("flips: that makes no NET, MUST", convex.flip(0, 0, 2), Due.NONE);
        convex.mark(0, 2, 0);
        due.is("flips: it does again", convex.flip(0, 0, 2), 1);
    }

    /** "It begins with those of THE HULL for which no POINT is right of (below) the NEIGHBOURS." */
    private static void sweepsBegin() {
        due.is("sweeps: all of a bow are below", Due.bow(9).path(0, 0), 511);
        MarkedSweeps above = Due.points(-4, 0, 4, 0, -3, 7, 3, 7, 0, 10);
        due.is("sweeps: all but two are above", above.path(0, 0), 3);
        MarkedSweeps upright = Due.points(0, 0, 0, 9, 9, 0, 9, 9);
        due.is("sweeps: like x, the first and the last", upright.path(0, 0), 1 | 4 | 8);
        MarkedSweeps leaning = Due.points(0, 0, 0, 9, 9, 9);
        due.is("sweeps: like x at the left", leaning.path(0, 0), 1 | 4);
        MarkedSweeps right = Due.points(0, 0, 9, 0, 9, 9);
        due.is("sweeps: like x at the right", right.path(0, 0), 7);
    }

    /** "As long as there is any": at the end none is below what of THE HULL is above. */
    private static void sweepsEnd() {
        MarkedSweeps tent = Due.tent();
        due.is("sweeps: as many as TRIANGLES", tent.prove(0), 13);
        due.is("sweeps: the last PATH of a tent", tent.path(0, 13), 7);
        MarkedSweeps bow = Due.bow(9);
        due.is("sweeps: of a bow", bow.prove(428), 7);
        due.is("sweeps: the last PATH of a bow", bow.path(428, 7), 1 | 256);
        MarkedSweeps upright = Due.points(0, 0, 0, 9, 9, 0, 9, 9);
        due.is("sweeps: the last PATH, like x", upright.path(0, 2), 1 | 2 | 8);
    }

    /** "each makes it z * 1103515245 + 12345 (an int), and gives z >>> 8" (z is 1 at first). */
    private static void draws() {
        due.is("draws: at first", new MarkedSweeps().count(3), 1);
        int[] seeds = {1, 0, -1, Due.MOST, Due.LEAST, 1 << 30, -12345, 2, 3, 12345678};
        boolean below = false;
        for (int seed : seeds) {
            MarkedSweeps x = Due.crowd();
            x.seed(seed);
            long made = (seed * 1103515245L + 12345L) & 0xffffffffL;
            below = below || made > Due.MOST;
            due.is("draws: behind " + seed, x.draw(), made / 256 % 780);
            due.is("draws: z behind " + seed, x.count(3), (int) made);
        }
        due.is("draws: z below 0 is among them", below ? 1 : 0, 1);
    }
}
