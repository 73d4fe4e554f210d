import java.util.function.Supplier;

/** The boundary cases of promises 1 to 10, sentence by sentence. */
public final class BoundsOfPointsTest {
    private static final Due due = new Due();
    private static final Twins twins = new Twins(due);
    private static final int[] NO_POINT_OF_SIX = {-1, 6, 8, 9, Due.MOST, Due.LEAST};

    public static void main(String[] args) {
        newObject();
        placeBeyond();
        placeFull();
        placeState();
        placeInOrder();
        dropNone();
        dropMarks();
        moveBeyond();
        moveState();
        moveMust();
        moveMustEach();
        moveInOrder();
        atBeyond();
        markBeyond();
        markState();
        markInOrder();
        markOfBeyond();
        turnBeyond();
        crossesBeyond();
        hullNone();
        due.end();
    }

    /** "All as at first; no POINTS, no STEPS." */
    private static void newObject() {
        MarkedSweeps x = new MarkedSweeps();
        due.same("1: a new one", Twins.board(x), "POINTS MARKS (0, 0) STEPS");
        due.is("1: nothing can be undone", x.count(2), 0);
        due.is("1: z", x.count(3), 1);
        due.is("1: no ROWS", x.count(4), 0);
        for (int which = -1; which < 8; which++) {
            due.is("1: no finding", x.status(which), 0);
        }
        for (int s = 0; s < 4; s++) {
            due.is("1: SHEET " + s + " is MISSING", x.write(s, 0, 0), Due.MISSING);
        }
        Due.rich();
        twins.alike("1: another one has been changed", new MarkedSweeps(), new MarkedSweeps());
    }

    /** "BEYOND": x and y are -99 to 99. */
    private static void placeBeyond() {
        int[] beyond = {-100, 100, -101, 101, Due.MOST, Due.LEAST, 1 << 16, -(1 << 16), 256, -256};
        for (int v : beyond) {
            twins.refuse("2: place(" + v + ", 3)", Due::rich, x -> x.place(v, 3), Due.BEYOND);
            twins.refuse("2: place(3, " + v + ")", Due::rich, x -> x.place(3, v), Due.BEYOND);
        }
        int[][] at = {{-99, 5}, {99, 6}, {7, -99}, {8, 99}, {-99, -99}, {99, 99}, {-99, 99},
            {99, -99}, {-98, 98}};
        for (int[] p : at) {
            MarkedSweeps x = Due.points(0, 1, 2, 0);
            due.is("2: place(" + p[0] + ", " + p[1] + ")", x.place(p[0], p[1]), 2);
            due.is("2: its x", x.at(2, 0), p[0]);
            due.is("2: its y", x.at(2, 1), p[1]);
            due.is("2: no finding", x.status(-1), 0);
        }
    }

    /** "FULL": at most 9 POINTS. "A POINT: its number." */
    private static void placeFull() {
        MarkedSweeps x = new MarkedSweeps();
        for (int i = 0; i < 9; i++) {
            due.is("2: its number", x.place(i - 4, (i - 4) * (i - 4)), i);
            due.is("2: how many", x.count(0), i + 1);
        }
        due.is("2: no finding up to nine", x.status(-1), 0);
        twins.refuse("2: a tenth", () -> Due.bow(9), y -> y.place(50, 7), Due.FULL);
        due.is("2: one goes", x.drop(), 8);
        due.is("2: there is room", x.place(50, 7), 8);
        due.is("2: and none again", x.place(51, 10), Due.FULL);
        x.undo();
        due.is("2: room by undo()", x.place(51, 10), 8);
    }

    /** "STATE: it would be the same as another one, or on a line with two." */
    private static void placeState() {
        int[][] same = {{0, 0}, {20, 1}, {18, 19}, {2, 17}, {9, 7}, {11, 12}};
        for (int[] p : same) {
            twins.refuse("2: the same as another", Due::rich, x -> x.place(p[0], p[1]), Due.STATE);
        }
        twins.refuse("2: the same as the only one", () -> Due.points(4, 4), x -> x.place(4, 4),
            Due.STATE);
        onLinesOf(same);
        int[][] lying = {{-7, 3}, {5, 3}, {99, 3}};
        int[][] standing = {{3, -7}, {3, 5}, {3, 99}};
        for (int i = 0; i < 3; i++) {
            int[] l = lying[i];
            int[] s = standing[i];
            twins.refuse("2: level", () -> Due.points(0, 3, 10, 3), x -> x.place(l[0], l[1]),
                Due.STATE);
            twins.refuse("2: upright", () -> Due.points(3, 0, 3, 10), x -> x.place(s[0], s[1]),
                Due.STATE);
        }
        due.is("2: just above", Due.points(0, 3, 10, 3).place(5, 4), 2);
        due.is("2: just below", Due.points(0, 3, 10, 3).place(5, 2), 2);
        due.is("2: just left", Due.points(3, 0, 3, 10).place(2, 5), 2);
        due.is("2: just right", Due.points(3, 0, 3, 10).place(4, 5), 2);
        MarkedSweeps last = Due.points(0, 0, 50, 1, 7, 30, 8, 60);
        due.is("2: a line with the last two", last.place(6, 0), Due.STATE);
        last.drop();
        due.is("2: one of them is gone", last.place(6, 0), 3);
    }

    /** Ahead of, behind and, where there is a middle, between each two. */
    private static void onLinesOf(int[][] p) {
        for (int a = 0; a < p.length; a++) {
            for (int b = 0; b < p.length; b++) {
                int px = 2 * p[b][0] - p[a][0];
                int py = 2 * p[b][1] - p[a][1];
                int mx = p[a][0] + p[b][0];
                int my = p[a][1] + p[b][1];
                if (a != b) {
                    twins.refuse("2: behind on a line", Due::rich, x -> x.place(px, py), Due.STATE);
                }
                if (a < b && mx % 2 == 0 && my % 2 == 0) {
                    twins.refuse("2: between two", Due::rich, x -> x.place(mx / 2, my / 2),
                        Due.STATE);
                }
            }
        }
    }

    /** "in the order in which they are asked": BEYOND, FULL, STATE. */
    private static void placeInOrder() {
        twins.refuse("2: BEYOND, FULL", () -> Due.bow(9), x -> x.place(100, 0), Due.BEYOND);
        twins.refuse("2: BEYOND, STATE", () -> Due.points(0, 0, 50, 50), x -> x.place(100, 100),
            Due.BEYOND);
        twins.refuse("2: FULL, STATE: the same", () -> Due.bow(9), x -> x.place(0, 0), Due.FULL);
        twins.refuse("2: FULL, STATE: a line", () -> Due.bow(9), x -> x.place(0, 16), Due.FULL);
    }

    /** "NONE: there is none." "how many are left". */
    private static void dropNone() {
        twins.refuse("3: of a new one", MarkedSweeps::new, x -> x.drop(), Due.NONE);
        Supplier<MarkedSweeps> emptied = () -> {
            MarkedSweeps x = Due.rich();
            for (int i = 0; i < 6; i++) {
                x.drop();
            }
            return x;
        };
        twins.refuse("3: of one that was emptied", emptied, x -> x.drop(), Due.NONE);
        Supplier<MarkedSweeps> undone = () -> {
            MarkedSweeps x = Due.points(5, 5);
            x.undo();
            return x;
        };
        twins.refuse("3: of one whose place is undone", undone, x -> x.drop(), Due.NONE);
        MarkedSweeps full = Due.bow(9);
        for (int left = 8; left >= 0; left--) {
            due.is("3: how many are left", full.drop(), left);
            due.is("3: count(0)", full.count(0), left);
        }
    }

    /** "The last POINT goes, its EDGES have no MARKS". */
    private static void dropMarks() {
        MarkedSweeps x = Due.bow(9);
        for (int i = 0; i < 8; i++) {
            x.mark(i, 8, i % 2 + 1);
            x.mark(i, (i + 1) % 8, 1 + (i == 7 ? 1 : 0));
        }
        int must = x.count(5);
        int barred = x.count(6);
        int lost = 0;
        for (int i = 0; i < 8; i++) {
            lost += x.markOf(i, 8) == 1 ? 1 : 0;
        }
        x.drop();
        due.is("3: MUST are fewer", x.count(5), must - lost);
        due.is("3: BARRED are fewer", x.count(6), barred - (8 - lost));
        for (int i = 0; i < 7; i++) {
            due.is("3: others keep theirs", x.markOf(i, i + 1), 1);
        }
        due.is("3: others keep theirs", x.markOf(0, 7), 2);
        x.place(4, 16);
        for (int i = 0; i < 8; i++) {
            due.is("3: none when it comes again", x.markOf(i, 8), 0);
        }
        x.undo();
        x.undo();
        due.is("3: undone, MUST", x.count(5), must);
        due.is("3: undone, BARRED", x.count(6), barred);
    }

    /** "BEYOND": no such POINT; x, y. */
    private static void moveBeyond() {
        for (int i : NO_POINT_OF_SIX) {
            twins.refuse("4: move(" + i + ", 1, 2)", Due::rich, x -> x.move(i, 1, 2), Due.BEYOND);
        }
        twins.refuse("4: of none", MarkedSweeps::new, x -> x.move(0, 1, 2), Due.BEYOND);
        int[] beyond = {-100, 100, Due.MOST, Due.LEAST};
        for (int v : beyond) {
            twins.refuse("4: move(0, " + v + ", 3)", Due::rich, x -> x.move(0, v, 3), Due.BEYOND);
            twins.refuse("4: move(0, 3, " + v + ")", Due::rich, x -> x.move(0, 3, v), Due.BEYOND);
        }
        int[][] at = {{-99, 97}, {99, -96}, {98, -99}, {96, 99}};
        for (int i = 0; i < 9; i += 4) {
            for (int[] p : at) {
                MarkedSweeps x = Due.bow(9);
                due.is("4: move(" + i + ", " + p[0] + ", " + p[1] + ")", x.move(i, p[0], p[1]), 1);
                due.is("4: its x", x.at(i, 0), p[0]);
                due.is("4: its y", x.at(i, 1), p[1]);
                due.is("4: a CHANGE", x.count(2), 10);
            }
        }
    }

    /** "STATE: as of place()". */
    private static void moveState() {
        int[][] same = {{20, 1}, {18, 19}, {2, 17}, {9, 7}, {11, 12}};
        for (int[] p : same) {
            twins.refuse("4: the same as another", Due::rich, x -> x.move(0, p[0], p[1]),
                Due.STATE);
        }
        twins.refuse("4: on a line with two", Due::rich, x -> x.move(3, 13, 17), Due.STATE);
        twins.refuse("4: on a line with the first and the last", () -> Due.bow(9),
            x -> x.move(4, 1, 16), Due.STATE);
        MarkedSweeps itself = Due.rich();
        int changes = itself.count(2);
        due.is("4: the same as itself", itself.move(3, 2, 17), 1);
        due.is("4: is a CHANGE too", itself.count(2), changes + 1);
        MarkedSweeps along = Due.points(0, 0, 10, 0, 3, 9);
        due.is("4: on a line with itself and another", along.move(1, 20, 0), 1);
        MarkedSweeps two = Due.points(0, 0, 1, 1);
        due.is("4: of two, on their line", two.move(1, -7, -7), 1);
        due.is("4: of two, the same", two.move(1, 0, 0), Due.STATE);
        due.is("4: of one, anywhere", Due.points(0, 0).move(0, 0, 0), 1);
    }

    /** ".. or EDGES that MUST be would CROSS": just this side of the EDGE, and just beyond it. */
    private static void moveMust() {
        Supplier<MarkedSweeps> made = () -> {
            MarkedSweeps x = Due.points(-20, 0, 20, 0, 1, 30, 0, 9);
            x.mark(0, 1, 1);
            x.mark(3, 2, 1);
            return x;
        };
        due.is("4: just this side", made.get().move(3, 0, 1), 1);
        twins.refuse("4: just beyond", made, x -> x.move(3, 0, -1), Due.STATE);
        twins.refuse("4: the other end, just beyond", made, x -> x.move(2, 1, -1), Due.STATE);
        due.is("4: round the end of it", made.get().move(3, 40, -1), 1);
        twins.refuse("4: an end of the other one", made, x -> x.move(0, -20, 40), Due.STATE);
        MarkedSweeps barred = made.get();
        barred.mark(0, 1, 2);
        due.is("4: BARRED may be CROSSED", barred.move(3, 0, -1), 1);
        MarkedSweeps both = made.get();
        both.mark(2, 3, 0);
        due.is("4: without a MARK too", both.move(3, 0, -1), 1);
        MarkedSweeps joined = Due.points(-20, 0, 20, 0, 1, 30);
        joined.mark(0, 1, 1);
        joined.mark(1, 2, 1);
        joined.mark(0, 2, 1);
        due.is("4: those with an end in common never CROSS", joined.move(2, 1, -30), 1);
    }

    /** Each two EDGES that can CROSS, also those of neighbouring numbers: (0, 8) and (1, 2). */
    private static void moveMustEach() {
        int pairs = 0;
        for (int e = 0; e < 36; e++) {
            for (int f = 0; f < 36; f++) {
                int[] one = Reference.ends(e);
                int[] other = Reference.ends(f);
                boolean apart = one[0] != other[0] && one[0] != other[1] && one[1] != other[0]
                    && one[1] != other[1];
                if (apart) {
                    pairs++;
                    moveAcross(one, other);
                }
            }
        }
        due.is("4: each two", pairs, 756);
    }

    /** The second EDGE stands above the first until its later end comes to lie below that. */
    private static void moveAcross(int[] one, int[] other) {
        int[][] far = {{-97, 40}, {-90, 71}, {60, 88}, {83, 17}, {95, 53}};
        MarkedSweeps x = new MarkedSweeps();
        int next = 0;
        for (int i = 0; i < 9; i++) {
            int[] p = i == one[0] ? new int[] {-20, 0} : i == one[1] ? new int[] {20, 1}
                : i == other[0] ? new int[] {-1, 30} : i == other[1] ? new int[] {2, 9}
                : far[next++];
            due.is("4: placed", x.place(p[0], p[1]), i);
        }
        due.is("4: MUST", x.mark(one[0], one[1], 1), 0);
        due.is("4: MUST", x.mark(other[0], other[1], 1), 0);
        due.is("4: would CROSS", x.move(other[1], 3, -7), Due.STATE);
        due.is("4: stays", x.at(other[1], 1), 9);
        x.mark(other[1], other[0], 0);
        due.is("4: would not", x.move(other[1], 3, -7), 1);
        due.is("6: now they CROSS", x.mark(other[0], other[1], 1), Due.STATE);
        due.is("9: they do", x.crosses(one[0], one[1], other[0], other[1]), 1);
    }

    /** In their order: BEYOND, STATE. */
    private static void moveInOrder() {
        twins.refuse("4: no such POINT, the same", Due::rich, x -> x.move(6, 0, 0), Due.BEYOND);
        twins.refuse("4: beyond, on a line", () -> Due.points(0, 0, 50, 50, 1, 7),
            x -> x.move(2, 100, 100), Due.BEYOND);
    }

    /** "BEYOND": no such POINT; what is 0 to 3. */
    private static void atBeyond() {
        for (int i : NO_POINT_OF_SIX) {
            for (int what = 0; what < 4; what++) {
                int w = what;
                twins.refuse("5: at(" + i + ", " + what + ")", Due::rich, x -> x.at(i, w),
                    Due.BEYOND);
            }
        }
        int[] beyond = {-1, 4, Due.MOST, Due.LEAST};
        for (int what : beyond) {
            twins.refuse("5: at(0, " + what + ")", Due::rich, x -> x.at(0, what), Due.BEYOND);
        }
        twins.refuse("5: of none", MarkedSweeps::new, x -> x.at(0, 0), Due.BEYOND);
        int[][] last = {{11, 12, 3, 0}, {0, 0, 0, 1}};
        for (int what = 0; what < 4; what++) {
            int w = what;
            twins.answer("5: the last", Due::rich, x -> x.at(5, w), last[0][w]);
            twins.answer("5: the first", Due::rich, x -> x.at(0, w), last[1][w]);
        }
        twins.answer("5: the ninth's place", () -> Due.bow(9), x -> x.at(8, 2), 8);
        for (int i = 0; i < 2; i++) {
            int j = i;
            twins.answer("5: of one", () -> Due.points(7, 7), x -> x.at(0, 2 + j), j);
            twins.answer("5: of one at (0, 0)", () -> Due.points(0, 0), x -> x.at(0, 2 + j), j);
            twins.answer("5: of two", () -> Due.points(7, 7, 7, 6), x -> x.at(j, 2), 1 - j);
            twins.answer("5: of two", () -> Due.points(7, 7, 7, 6), x -> x.at(j, 3), 1);
        }
    }

    /** "BEYOND: also one and the same": no such POINT; v is 0 to 2. */
    private static void markBeyond() {
        for (int i : NO_POINT_OF_SIX) {
            twins.refuse("6: mark(" + i + ", 0, 1)", Due::rich, x -> x.mark(i, 0, 1), Due.BEYOND);
            twins.refuse("6: mark(0, " + i + ", 1)", Due::rich, x -> x.mark(0, i, 1), Due.BEYOND);
            twins.refuse("6: both", Due::rich, x -> x.mark(i, i, 1), Due.BEYOND);
        }
        for (int i = 0; i < 6; i++) {
            int j = i;
            twins.refuse("6: one and the same", Due::rich, x -> x.mark(j, j, 0), Due.BEYOND);
        }
        int[] beyond = {-1, 3, Due.MOST, Due.LEAST};
        for (int v : beyond) {
            twins.refuse("6: mark(0, 1, " + v + ")", Due::rich, x -> x.mark(0, 1, v), Due.BEYOND);
        }
        twins.refuse("6: of one POINT", () -> Due.points(1, 1), x -> x.mark(0, 1, 1), Due.BEYOND);
        MarkedSweeps x = Due.bow(9);
        int was = 0;
        for (int v = 0; v < 3; v++) {
            due.is("6: the first EDGE becomes " + v, x.mark(0, 1, v), was);
            due.is("6: the last EDGE becomes " + v, x.mark(8, 7, v), was);
            due.is("6: the first is", x.markOf(1, 0), v);
            due.is("6: the last is", x.markOf(7, 8), v);
            was = v;
        }
        due.is("6: each a CHANGE", x.count(2), 15);
    }

    /** "STATE: it would CROSS another one that MUST be." */
    private static void markState() {
        Supplier<MarkedSweeps> made = () -> {
            MarkedSweeps x = Due.square();
            x.mark(0, 2, 1);
            return x;
        };
        twins.refuse("6: would CROSS", made, x -> x.mark(1, 3, 1), Due.STATE);
        twins.refuse("6: would CROSS, the other way round", made, x -> x.mark(3, 1, 1), Due.STATE);
        due.is("6: itself is no other one", made.get().mark(0, 2, 1), 1);
        due.is("6: BARRED isn't one that MUST be", made.get().mark(1, 3, 2), 0);
        due.is("6: nor is one without a MARK", made.get().mark(1, 3, 0), 0);
        due.is("6: an end in common", made.get().mark(0, 1, 1), 0);
        MarkedSweeps barred = Due.square();
        barred.mark(0, 2, 2);
        due.is("6: it CROSSES a BARRED one", barred.mark(1, 3, 1), 0);
        MarkedSweeps freed = made.get();
        freed.drop();
        freed.place(0, 10);
        due.is("6: MUST stays where POINTS stay", freed.mark(1, 3, 1), Due.STATE);
        freed.mark(2, 0, 0);
        due.is("6: none MUST be", freed.mark(1, 3, 1), 0);
        MarkedSweeps moved = made.get();
        moved.move(1, -5, 11);
        due.is("6: they don't CROSS any more", moved.mark(1, 3, 1), 0);
        MarkedSweeps undone = made.get();
        undone.undo();
        due.is("6: MUST is undone", undone.mark(1, 3, 1), 0);
    }

    /** In their order: BEYOND, STATE. */
    private static void markInOrder() {
        Supplier<MarkedSweeps> made = () -> {
            MarkedSweeps x = Due.square();
            x.mark(0, 2, 1);
            return x;
        };
        twins.refuse("6: BEYOND, STATE", made, x -> x.mark(1, 3, 3), Due.BEYOND);
    }

    /** "BEYOND." */
    private static void markOfBeyond() {
        for (int i : NO_POINT_OF_SIX) {
            twins.refuse("7: markOf(" + i + ", 0)", Due::rich, x -> x.markOf(i, 0), Due.BEYOND);
            twins.refuse("7: markOf(0, " + i + ")", Due::rich, x -> x.markOf(0, i), Due.BEYOND);
        }
        twins.refuse("7: no EDGE", Due::rich, x -> x.markOf(4, 4), Due.BEYOND);
        twins.refuse("7: of one POINT", () -> Due.points(1, 1), x -> x.markOf(0, 1), Due.BEYOND);
        twins.answer("7: MUST", Due::rich, x -> x.markOf(0, 4), 1);
        twins.answer("7: BARRED", Due::rich, x -> x.markOf(3, 1), 2);
        twins.answer("7: none", Due::rich, x -> x.markOf(4, 5), 0);
        twins.answer("7: the last EDGE", () -> Due.bow(9), x -> x.markOf(7, 8), 0);
    }

    /** "BEYOND: also one and the same." */
    private static void turnBeyond() {
        for (int i : NO_POINT_OF_SIX) {
            twins.refuse("8: turn(" + i + ", 0, 1)", Due::rich, x -> x.turn(i, 0, 1), Due.BEYOND);
            twins.refuse("8: turn(0, " + i + ", 1)", Due::rich, x -> x.turn(0, i, 1), Due.BEYOND);
            twins.refuse("8: turn(0, 1, " + i + ")", Due::rich, x -> x.turn(0, 1, i), Due.BEYOND);
        }
        int[][] same = {{0, 0, 1}, {0, 1, 0}, {1, 0, 0}, {5, 5, 5}, {0, 0, 0}};
        for (int[] s : same) {
            twins.refuse("8: one and the same", Due::rich, x -> x.turn(s[0], s[1], s[2]),
                Due.BEYOND);
        }
        twins.refuse("8: of two", () -> Due.points(0, 0, 1, 0), x -> x.turn(0, 1, 2), Due.BEYOND);
        twins.answer("8: the last three", () -> Due.bow(9), x -> x.turn(6, 7, 8), 1);
        twins.answer("8: the last three", () -> Due.bow(9), x -> x.turn(8, 7, 6), -1);
    }

    /** "BEYOND: also a and b, or c and d, one and the same." */
    private static void crossesBeyond() {
        for (int i : NO_POINT_OF_SIX) {
            for (int at = 0; at < 4; at++) {
                int[] p = {0, 1, 2, 3};
                p[at] = i;
                twins.refuse("9: crosses with " + i, Due::rich,
                    x -> x.crosses(p[0], p[1], p[2], p[3]), Due.BEYOND);
            }
        }
        twins.refuse("9: a and b", Due::rich, x -> x.crosses(2, 2, 0, 1), Due.BEYOND);
        twins.refuse("9: c and d", Due::rich, x -> x.crosses(0, 1, 2, 2), Due.BEYOND);
        twins.refuse("9: all", Due::rich, x -> x.crosses(3, 3, 3, 3), Due.BEYOND);
        twins.answer("9: a and c aren't BEYOND", Due::rich, x -> x.crosses(0, 1, 0, 2), 0);
        twins.answer("9: a and d aren't BEYOND", Due::rich, x -> x.crosses(0, 1, 2, 0), 0);
        twins.answer("9: b and c aren't BEYOND", Due::rich, x -> x.crosses(0, 1, 1, 2), 0);
        twins.answer("9: b and d aren't BEYOND", Due::rich, x -> x.crosses(0, 1, 2, 1), 0);
        twins.answer("9: one EDGE twice", Due::rich, x -> x.crosses(0, 1, 1, 0), 0);
        twins.answer("9: they do", Due::rich, x -> x.crosses(0, 2, 1, 3), 1);
        twins.answer("9: the last ones do", () -> Due.bow(9), x -> x.crosses(5, 7, 6, 8), 1);
    }

    /** "(from 0; -1: how many it has). NONE." */
    private static void hullNone() {
        int[] none = {-2, -3, 4, 5, 9, Due.MOST, Due.LEAST};
        for (int k : none) {
            twins.refuse("10: hull(" + k + ")", Due::rich, x -> x.hull(k), Due.NONE);
        }
        int[] hull = {4, 0, 1, 2, 3};
        for (int k = -1; k < 4; k++) {
            int j = k;
            twins.answer("10: hull(" + k + ")", Due::rich, x -> x.hull(j), hull[k + 1]);
        }
        twins.answer("10: of none", MarkedSweeps::new, x -> x.hull(-1), 0);
        twins.refuse("10: of none", MarkedSweeps::new, x -> x.hull(0), Due.NONE);
        twins.answer("10: of one", () -> Due.points(3, 3), x -> x.hull(-1), 1);
        twins.answer("10: of one", () -> Due.points(3, 3), x -> x.hull(0), 0);
        twins.refuse("10: of one", () -> Due.points(3, 3), x -> x.hull(1), Due.NONE);
        twins.answer("10: of one at (0, 0)", () -> Due.points(0, 0), x -> x.hull(-1), 1);
        twins.answer("10: of one at (0, 0)", () -> Due.points(0, 0), x -> x.hull(0), 0);
        twins.answer("10: of two", () -> Due.points(3, 3, 3, 2), x -> x.hull(-1), 2);
        twins.answer("10: of two", () -> Due.points(3, 3, 3, 2), x -> x.hull(0), 1);
        twins.answer("10: of two", () -> Due.points(3, 3, 3, 2), x -> x.hull(1), 0);
        twins.refuse("10: of two", () -> Due.points(3, 3, 3, 2), x -> x.hull(2), Due.NONE);
        twins.answer("10: of nine", () -> Due.bow(9), x -> x.hull(8), 8);
        twins.refuse("10: of nine", () -> Due.bow(9), x -> x.hull(9), Due.NONE);
        twins.answer("10: the fewest of nine", Due::tent, x -> x.hull(-1), 3);
        twins.refuse("10: the fewest of nine", Due::tent, x -> x.hull(3), Due.NONE);
    }
}
