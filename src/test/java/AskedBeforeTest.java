/**
 * What was asked before counts for nothing: an object that has answered for other POINTS and MARKS
 * answers as one that is made anew. And EDGE 0 and POINT 0 are such as any others.
 */
public final class AskedBeforeTest {
    private static final Due due = new Due();
    private static final int[] CROWD =
        {73, 31, -21, 50, -25, 52, -27, 74, -7, 29, 66, 31, -62, 9, -30, 99, -95, -17};

    public static void main(String[] args) {
        fewerPoints();
        firstPointMoves();
        fewerNets();
        firstEdgeComes();
        firstEdgeIsInside();
        firstPointIsAbove();
        byNoFlips();
        polygonBefore();
        firstPointIsInside();
        due.end();
    }

    private static MarkedSweeps crowdOf(int many) {
        MarkedSweeps made = new MarkedSweeps();
        for (int i = 0; i < many; i++) {
            made.place(CROWD[2 * i], CROWD[2 * i + 1]);
        }
        return made;
    }

    /** Asks for all that is found ahead of being told; each by a name. */
    private static void alike(String name, MarkedSweeps asked, MarkedSweeps anew) {
        int last = anew.nets() - 1;
        due.is(name + ": nets()", asked.nets(), last + 1);
        due.is(name + ": net(last)", asked.net(last), anew.net(last));
        due.is(name + ": net(too far)", asked.net(last + 1), anew.net(last + 1));
        due.is(name + ": always(0)", asked.always(0), anew.always(0));
        due.is(name + ": always(1)", asked.always(1), anew.always(1));
        due.is(name + ": with(0, 1)", asked.with(0, 1), anew.with(0, 1));
        due.is(name + ": flips(0)", asked.flips(0), anew.flips(0));
        due.is(name + ": apart(0, last)", asked.apart(0, last), anew.apart(0, last));
        due.is(name + ": apart(last, 0)", asked.apart(last, 0), anew.apart(last, 0));
        due.is(name + ": path(last, 1)", asked.path(last, 1), anew.path(last, 1));
        due.is(name + ": hull(-1)", asked.hull(-1), anew.hull(-1));
        due.is(name + ": ways()", asked.ways(), anew.ways());
        due.is(name + ": empty(3)", asked.empty(3), anew.empty(3));
        due.is(name + ": ofNet(last, 1, 0)", asked.ofNet(last, 1, 0), anew.ofNet(last, 1, 0));
        due.is(name + ": best(1, 0)", asked.best(1, 0), anew.best(1, 0));
    }

    private static void fewerPoints() {
        MarkedSweeps x = crowdOf(9);
        due.is("11: nine", x.nets(), 780);
        due.is("20: far apart", x.apart(0, 779), x.apart(779, 0));
        for (int many = 8; many >= 0; many--) {
            x.drop();
            alike("3: down to " + many, x, crowdOf(many));
        }
        for (int many = 1; many <= 9; many++) {
            x.undo();
            alike("43: up to " + many, x, crowdOf(many));
        }
    }

    /** Only one number of one POINT is another one, POINT 0 too. */
    private static void firstPointMoves() {
        MarkedSweeps x = Due.points(0, 0, 20, 1, 19, 18, 1, 17);
        due.is("11: a square", x.nets(), 2);
        due.is("4: move(0, 17, 0)", x.move(0, 17, 0), 1);
        alike("4: x of POINT 0", x, Due.points(17, 0, 20, 1, 19, 18, 1, 17));
        due.is("4: move(0, 17, 16)", x.move(0, 17, 16), 1);
        alike("4: y of POINT 0", x, Due.points(17, 16, 20, 1, 19, 18, 1, 17));
        due.is("11: one is inside", x.nets(), 1);
    }

    private static void fewerNets() {
        MarkedSweeps x = Due.square();
        due.is("15: in both NETS", Long.bitCount(x.always(0)), 4);
        x.mark(1, 3, 2);
        due.is("15: in the one that is left", x.always(0), x.net(0));
        x.undo();
        x.mark(1, 3, 1);
        due.is("15: in the other one", x.always(0), x.net(0));
        due.is("15: in any", x.always(1), x.net(0));
        due.is("20: only one", x.apart(0, 1), Due.NONE);
    }

    /** A bow tie: EDGE 0 is one of the two that CROSS. */
    private static MarkedSweeps tie() {
        return Due.points(0, 0, 10, 11, 11, 0, 0, 10);
    }

    private static void firstEdgeComes() {
        long with01 = Due.edge(0, 1) | Due.edge(0, 2) | Due.edge(1, 2)
            | Due.edge(1, 3) | Due.edge(0, 3);
        MarkedSweeps x = tie();
        due.is("12: with EDGE 0", x.net(0), with01);
        due.is("12: without", x.net(1), with01 ^ Due.edge(0, 1) ^ Due.edge(2, 3));
        due.is("18: EDGE 0 would come", x.flips(1), Due.edge(2, 3));
        due.is("19: EDGE 0 comes", x.flip(1, 2, 3), 0);
        due.is("20: EDGE 0 comes", x.apart(1, 0), 1);
        due.is("18: EDGE 0 would go", x.flips(0), Due.edge(0, 1));
        due.is("19: EDGE 0 goes", x.flip(0, 0, 1), 1);
        due.is("20: EDGE 0 goes", x.apart(0, 1), 1);
        x.mark(0, 1, 2);
        due.is("15: EDGE 0 is in none", x.always(1), x.net(0));
        due.is("18: EDGE 0 may not come", x.flips(0), 0);
    }

    private static void firstEdgeIsInside() {
        MarkedSweeps x = tie();
        Due.lay(x, 0, 0, 0, 2, 1, 3);
        due.is("31: EDGE 0 is no SIDE", x.splits(0), 2);
        Due.lay(x, 0, 0, 0, 1, 2, 3);
        due.is("31: EDGE 0 is a SIDE", x.splits(0), Due.STATE);
    }

    private static void firstPointIsAbove() {
        MarkedSweeps x = Due.points(5, 10, 0, 0, 11, 1);
        due.is("21: POINT 0 isn't on THE PATH yet", x.path(0, 0), 6);
        due.is("21: now it is", x.path(0, 1), 7);
        due.is("22: it comes", x.advance(0, 0, 1), 0);
    }

    /** Two NETS of six POINTS that no FLIPS join, whatever was looked for when there were more. */
    private static void byNoFlips() {
        for (int from = 0; from < 14; from++) {
            MarkedSweeps x = Due.points(0, 3, 5, 0, 11, 2, 12, 9, 6, 13, 1, 10);
            int farthest = 0;
            for (int to = 0; to < 14; to++) {
                farthest = Math.max(farthest, x.apart(from, to));
            }
            due.is("20: none is out of reach of " + from, farthest > 1 ? 1 : 0, 1);
            x.mark(0, 3, 2);
            x.mark(1, 4, 2);
            x.mark(2, 5, 2);
            due.is("11: two are left", x.nets(), 2);
            due.is("20: by none, from 0, behind " + from, x.apart(0, 1), Due.NONE);
            due.is("20: by none, from 1, behind " + from, x.apart(1, 0), Due.NONE);
        }
    }

    /** A lesser POLYGON is read behind a greater one. */
    private static void polygonBefore() {
        MarkedSweeps x = Due.points(0, 0, 20, 1, 19, 18, 1, 17, 8, 5, 11, 6, 10, 12);
        Due.lay(x, 0, 0, 0, 1, 2, 3);
        Due.lay(x, 1, 0, 4, 5, 6);
        due.is("33: three are WITHIN", x.within(0), 112);
        due.is("33: none is WITHIN", x.within(1), 0);
        Due.lay(x, 1, 0, 0, 1, 2);
        due.is("33: two are WITHIN", x.within(1), 48);
        Due.lay(x, 0, 0, 3, 0, 1, 2);
        Due.lay(x, 1, 0, 0, 1, 3);
        due.is("33: three still are", x.within(0), 112);
        due.is("33: two again", x.within(1), 48);
        due.is("31: a square", x.splits(0), 2);
        due.is("31: a triangle", x.splits(1), 1);
        due.is("32: it", x.area(1), 20 * 17 - 1);
    }

    private static void firstPointIsInside() {
        MarkedSweeps x = Due.points(5, 6, 0, 0, 20, 1, 1, 17);
        Due.lay(x, 0, 0, 1, 2, 3);
        due.is("33: POINT 0 is WITHIN", x.within(0), 1);
        due.is("34: POINT 0 is WITHIN three", x.empty(3), 3);
        due.is("5: POINT 0 isn't of THE HULL", x.at(0, 3), 0);
    }
}
