import java.util.Arrays;

/**
 * All nets (whole triangulations) over at most nine points, and what can be asked of them.
 * The words in capitals are those of the document.
 */
public final class MarkedSweeps {
    private static final int BEYOND = 0;
    private static final int FULL = 1;
    private static final int KIND = 2;
    private static final int NONE = 3;
    private static final int STATE = 4;
    private static final int MISSING = 5;
    private static final int SIZE = 6;
    private static final int OVER = 7;
    private static final int FINDINGS = 8;
    private static final int LOW = -1000001;
    private static final long LONG_LOW = -1000000000000000001L;

    private static final int MOST_POINTS = 9;
    private static final int MOST_EDGES = 36;
    private static final int MOST_STEPS = 8;
    private static final int MOST_CHANGES = 40;
    private static final int MOST_NUMBERS = 40;
    private static final int SHEETS = 4;
    private static final int FARTHEST = 99;
    /** Nine points, no three on a line, never have more than 780 triangulations. */
    private static final int MOST_NETS = 800;
    /** A net of nine points has at most 2 * 9 - 2 - 3 triangles, and a sweep takes each once. */
    private static final int MOST_ADVANCES = 13;

    private static final int MUST = 1;
    private static final int BARRED = 2;
    private static final int LAST_RULE = 6;
    private static final int LAST_FOLD = 3;
    private static final int LAST_STEP_SORT = 6;
    private static final int NO_SHEET = -1;
    private static final int BYTES = 0;
    private static final int INTS = 1;
    private static final int LONGS = 2;

    /** The lesser end of each EDGE, by its number. */
    private static final int[] LESSER_END = {
        0, 0, 0, 0, 0, 0, 0, 0, 1, 1, 1, 1, 1, 1, 1, 2, 2, 2,
        2, 2, 2, 3, 3, 3, 3, 3, 4, 4, 4, 4, 5, 5, 5, 6, 6, 7};
    /** The greater end of each EDGE, by its number. */
    private static final int[] GREATER_END = {
        1, 2, 3, 4, 5, 6, 7, 8, 2, 3, 4, 5, 6, 7, 8, 3, 4, 5,
        6, 7, 8, 4, 5, 6, 7, 8, 5, 6, 7, 8, 6, 7, 8, 7, 8, 8};

    private final Board board = new Board();
    private final Past past = new Past();
    private final Plane plane = new Plane();
    private final Nets nets = new Nets();
    private final FlipSearch search = new FlipSearch();
    private final Sweep sweep = new Sweep();
    private final Ways ways = new Ways();
    private final Meter meter = new Meter();
    private final Polygon polygon = new Polygon();
    private final Rows rows = new Rows();
    private final Sheet[] sheets = new Sheet[SHEETS];
    private final int[] told = new int[FINDINGS];
    private int z = 1;

    public MarkedSweeps() {
        for (int s = 0; s < SHEETS; s++) {
            sheets[s] = new Sheet();
        }
    }

    // ---- points, edges

    public int place(int x, int y) {
        if (!isNear(x) || !isNear(y)) {
            return finding(BEYOND);
        }
        if (board.points >= MOST_POINTS) {
            return finding(FULL);
        }
        if (!board.isFree(x, y, -1)) {
            return finding(STATE);
        }
        past.keep(board);
        board.addPoint(x, y);
        return board.points - 1;
    }

    public int drop() {
        if (board.points == 0) {
            return finding(NONE);
        }
        past.keep(board);
        board.removeLastPoint();
        return board.points;
    }

    public int move(int i, int x, int y) {
        if (!board.isPoint(i) || !isNear(x) || !isNear(y)) {
            return finding(BEYOND);
        }
        if (!board.isFree(x, y, i) || board.wouldCross(i, x, y)) {
            return finding(STATE);
        }
        past.keep(board);
        board.x[i] = x;
        board.y[i] = y;
        return 1;
    }

    public int at(int i, int what) {
        if (!board.isPoint(i) || what < 0 || what > 3) {
            return finding(BEYOND);
        }
        plane.follow(board);
        switch (what) {
            case 0:
                return board.x[i];
            case 1:
                return board.y[i];
            case 2:
                return plane.places[i];
            default:
                return (plane.hullSet >> i) & 1;
        }
    }

    public int mark(int i, int j, int v) {
        if (!board.isPair(i, j) || v < 0 || v > BARRED) {
            return finding(BEYOND);
        }
        plane.follow(board);
        int edge = edgeOf(i, j);
        if (v == MUST && (plane.crossing[edge] & board.must) != 0) {
            return finding(STATE);
        }
        past.keep(board);
        int was = board.markAt(edge);
        board.setMark(edge, v);
        return was;
    }

    public int markOf(int i, int j) {
        if (!board.isPair(i, j)) {
            return finding(BEYOND);
        }
        return board.markAt(edgeOf(i, j));
    }

    public int turn(int a, int b, int c) {
        if (!board.isPair(a, b) || !board.isPair(b, c) || a == c) {
            return finding(BEYOND);
        }
        plane.follow(board);
        return plane.isLeft(a, b, c) ? 1 : -1;
    }

    public int crosses(int a, int b, int c, int d) {
        if (!board.isPair(a, b) || !board.isPair(c, d)) {
            return finding(BEYOND);
        }
        plane.follow(board);
        return holds(plane.crossing[edgeOf(a, b)], edgeOf(c, d)) ? 1 : 0;
    }

    public int hull(int k) {
        plane.follow(board);
        if (k == -1) {
            return plane.hullSize;
        }
        if (k < 0 || k >= plane.hullSize) {
            return finding(NONE);
        }
        return plane.hull[k];
    }

    // ---- nets

    public int nets() {
        followNets();
        return nets.size;
    }

    public long net(int k) {
        if (!isNet(k)) {
            return longFinding(NONE);
        }
        return nets.list[k];
    }

    public int rank(long net) {
        followNets();
        int k = nets.find(net);
        return k < 0 ? finding(NONE) : k;
    }

    public int with(int i, int j) {
        if (!board.isPair(i, j)) {
            return finding(BEYOND);
        }
        followNets();
        return nets.holding(edgeOf(i, j));
    }

    public long always(int what) {
        if (what < 0 || what > 1) {
            return longFinding(BEYOND);
        }
        followNets();
        if (nets.size == 0) {
            return longFinding(NONE);
        }
        return what == 0 ? nets.inAll() : nets.inAny();
    }

    public int draw() {
        followNets();
        int size = nets.size;
        if (size == 0) {
            return finding(NONE);
        }
        z = z * 1103515245 + 12345;
        return (z >>> 8) % size;
    }

    public int fan(int k, int i) {
        if (!board.isPoint(i)) {
            return finding(BEYOND);
        }
        if (!isNet(k)) {
            return finding(NONE);
        }
        // Round an inner point there are as many triangles as edges; on the hull one gap is open.
        int open = (plane.hullSet >> i) & 1;
        return Long.bitCount(nets.list[k] & edgesAt(i)) - open;
    }

    // ---- flips

    public long flips(int k) {
        if (!isNet(k)) {
            return longFinding(NONE);
        }
        return nets.flippable(k, plane);
    }

    public int flip(int k, int i, int j) {
        if (!board.isPair(i, j)) {
            return finding(BEYOND);
        }
        if (!isNet(k)) {
            return finding(NONE);
        }
        int other = nets.flipped(k, edgeOf(i, j), plane);
        return other < 0 ? finding(NONE) : other;
    }

    public int apart(int k, int l) {
        if (!isNet(k) || !isNet(l)) {
            return finding(NONE);
        }
        int far = search.fewest(k, l, nets, plane);
        return far < 0 ? finding(NONE) : far;
    }

    // ---- sweeps, ways

    public int path(int k, int t) {
        if (!isNet(k)) {
            return finding(NONE);
        }
        sweep.follow(nets.list[k], plane);
        if (t < 0 || t > sweep.size) {
            return finding(NONE);
        }
        return sweep.paths[t];
    }

    public int advance(int k, int t, int what) {
        if (what < 0 || what > 1) {
            return finding(BEYOND);
        }
        if (!isNet(k)) {
            return finding(NONE);
        }
        sweep.follow(nets.list[k], plane);
        if (t < 0 || t >= sweep.size) {
            return finding(NONE);
        }
        return what == 0 ? sweep.sets[t] : sweep.sorts[t];
    }

    public int ways() {
        plane.follow(board);
        return ways.total(plane, board.barred);
    }

    // ---- measures

    public int step(int sort, int n) {
        if (sort < 0 || sort > LAST_STEP_SORT || !isNear(n)) {
            return finding(BEYOND);
        }
        if (board.steps >= MOST_STEPS) {
            return finding(FULL);
        }
        past.keep(board);
        board.addStep(sort, n);
        return board.steps;
    }

    public int stepOf(int i, int what) {
        if (i < 0 || i >= board.steps || what < 0 || what > 1) {
            return finding(BEYOND);
        }
        return what == 0 ? board.stepSorts[i] : board.stepNumbers[i];
    }

    public int clear() {
        past.keep(board);
        int were = board.steps;
        board.steps = 0;
        return were;
    }

    public long chain(long v) {
        meter.start(v);
        meter.takeSteps(board);
        return meter.over ? longFinding(OVER) : meter.value;
    }

    public long ofEdge(int i, int j, int rule) {
        if (!board.isPair(i, j) || !isRule(rule)) {
            return longFinding(BEYOND);
        }
        meter.measureEdge(board, edgeOf(i, j), rule);
        return meter.over ? longFinding(OVER) : meter.value;
    }

    public long ofNet(int k, int rule, int fold) {
        if (!isRule(rule) || !isFold(fold)) {
            return longFinding(BEYOND);
        }
        if (!isNet(k)) {
            return longFinding(NONE);
        }
        meter.measureEdges(board, rule);
        meter.measureNet(nets.list[k], fold);
        return meter.over ? longFinding(OVER) : meter.value;
    }

    public int best(int rule, int fold) {
        if (!isRule(rule) || !isFold(fold)) {
            return finding(BEYOND);
        }
        followNets();
        if (nets.size == 0) {
            return finding(NONE);
        }
        meter.measureEdges(board, rule);
        int least = meter.leastOf(nets, fold);
        return least < 0 ? finding(OVER) : least;
    }

    // ---- polygons

    public int splits(int s) {
        int refused = refusedPolygon(s);
        return refused < 0 ? polygon.splitCount(plane) : finding(refused);
    }

    public int area(int s) {
        int refused = refusedPolygon(s);
        return refused < 0 ? polygon.twiceArea : finding(refused);
    }

    public int within(int s) {
        int refused = refusedPolygon(s);
        return refused < 0 ? polygon.pointsInside(plane) : finding(refused);
    }

    public int empty(int k) {
        if (k < 3 || k > 6) {
            return finding(BEYOND);
        }
        plane.follow(board);
        int sets = 0;
        for (int set = 0; set < (1 << plane.points); set++) {
            if (Integer.bitCount(set) == k && plane.isHollow(set)) {
                sets++;
            }
        }
        return sets;
    }

    // ---- rows of advances

    public int prove(int k) {
        if (!isNet(k)) {
            return finding(NONE);
        }
        sweep.follow(nets.list[k], plane);
        rows.take(sweep);
        return rows.size;
    }

    public int row(int i, int what) {
        if (!rows.has(i, what)) {
            return finding(BEYOND);
        }
        return what == 0 ? rows.sets[i] : rows.sorts[i];
    }

    public int alter(int i, int what, int v) {
        if (!rows.has(i, what)) {
            return finding(BEYOND);
        }
        int[] column = what == 0 ? rows.sets : rows.sorts;
        int was = column[i];
        column[i] = v;
        return was;
    }

    public int judge(int k) {
        if (!isNet(k)) {
            return finding(NONE);
        }
        sweep.follow(nets.list[k], plane);
        return rows.firstUnlike(sweep) + 1;
    }

    // ---- sheets

    public int sheet(int s, int sort, int n) {
        if (!isSheet(s) || sort < NO_SHEET || sort > LONGS) {
            return finding(BEYOND);
        }
        if (sort == NO_SHEET) {
            sheets[s].lay(NO_SHEET, 0);
            return 0;
        }
        if (n < 0) {
            return finding(SIZE);
        }
        if (n > MOST_NUMBERS) {
            return finding(BEYOND);
        }
        sheets[s].lay(sort, n);
        return n;
    }

    public int write(int s, int i, long v) {
        int refused = refusedNumber(s, i);
        if (refused >= 0) {
            return finding(refused);
        }
        sheets[s].put(i, v);
        return 1;
    }

    public long item(int s, int i) {
        int refused = refusedNumber(s, i);
        return refused < 0 ? sheets[s].numbers[i] : longFinding(refused);
    }

    public int copy(int s, int i, int t, int j, int n) {
        if (!isSheet(s) || !isSheet(t)) {
            return finding(BEYOND);
        }
        Sheet from = sheets[s];
        Sheet to = sheets[t];
        if (from.isMissing() || to.isMissing()) {
            return finding(MISSING);
        }
        if (from.sort != to.sort) {
            return finding(KIND);
        }
        if (!from.hasRun(i, n) || !to.hasRun(j, n)) {
            return finding(BEYOND);
        }
        System.arraycopy(from.numbers, i, to.numbers, j, n);
        return n;
    }

    // ---- what is undone, told

    public int undo() {
        if (past.size == 0) {
            return finding(NONE);
        }
        past.bringBack(board);
        return past.size;
    }

    public int seed(int v) {
        int was = z;
        z = v;
        return was;
    }

    public int count(int what) {
        switch (what) {
            case 0:
                return board.points;
            case 1:
                return board.steps;
            case 2:
                return past.size;
            case 3:
                return z;
            case 4:
                return rows.size;
            case 5:
                return Long.bitCount(board.must);
            case 6:
                return Long.bitCount(board.barred);
            default:
                return finding(BEYOND);
        }
    }

    public int status(int which) {
        if (which < -1 || which >= FINDINGS) {
            return finding(BEYOND);
        }
        if (which >= 0) {
            return told[which];
        }
        int all = 0;
        for (int k = 0; k < FINDINGS; k++) {
            all += told[k];
        }
        return all;
    }

    private int finding(int k) {
        told[k]++;
        return LOW - k;
    }

    private long longFinding(int k) {
        told[k]++;
        return LONG_LOW - k;
    }

    private void followNets() {
        plane.follow(board);
        nets.follow(plane, board);
    }

    private boolean isNet(int k) {
        plane.follow(board);
        nets.follow(plane, board);
        return k >= 0 && k < nets.size;
    }

    /** The finding that number i of SHEET s can't be had by, or -1. */
    private int refusedNumber(int s, int i) {
        if (!isSheet(s)) {
            return BEYOND;
        }
        if (sheets[s].isMissing()) {
            return MISSING;
        }
        return i < 0 || i >= sheets[s].size ? BEYOND : -1;
    }

    /** The finding that SHEET s is no POLYGON by; or -1, and then it has been read. */
    private int refusedPolygon(int s) {
        if (!isSheet(s)) {
            return BEYOND;
        }
        if (sheets[s].isMissing()) {
            return MISSING;
        }
        plane.follow(board);
        return polygon.read(sheets[s], plane) ? -1 : STATE;
    }

    private static boolean isNear(int v) {
        return v >= -FARTHEST && v <= FARTHEST;
    }

    private static boolean isRule(int rule) {
        return rule >= 0 && rule <= LAST_RULE;
    }

    private static boolean isFold(int fold) {
        return fold >= 0 && fold <= LAST_FOLD;
    }

    private static boolean isSheet(int s) {
        return s >= 0 && s < SHEETS;
    }

    private static boolean holds(long edges, int edge) {
        return ((edges >>> edge) & 1L) != 0;
    }

    private static int edgeOf(int i, int j) {
        int lesser = Math.min(i, j);
        int greater = Math.max(i, j);
        return lesser * (2 * MOST_POINTS - 1 - lesser) / 2 + greater - lesser - 1;
    }

    private static long edgesAt(int i) {
        long edges = 0;
        for (int j = 0; j < MOST_POINTS; j++) {
            if (j != i) {
                edges |= 1L << edgeOf(i, j);
            }
        }
        return edges;
    }

    /** Above 0 if (cx, cy) is left of the way from (ax, ay) to (bx, by), 0 if on that line. */
    private static int side(int ax, int ay, int bx, int by, int cx, int cy) {
        return (bx - ax) * (cy - ay) - (by - ay) * (cx - ax);
    }

    /** All that undo() brings back: POINTS, MARKS, STEPS. */
    private static final class Board {
        final int[] x = new int[MOST_POINTS];
        final int[] y = new int[MOST_POINTS];
        final int[] stepSorts = new int[MOST_STEPS];
        final int[] stepNumbers = new int[MOST_STEPS];
        int points = 0;
        int steps = 0;
        long must = 0;
        long barred = 0;

        void become(Board other) {
            System.arraycopy(other.x, 0, x, 0, MOST_POINTS);
            System.arraycopy(other.y, 0, y, 0, MOST_POINTS);
            System.arraycopy(other.stepSorts, 0, stepSorts, 0, MOST_STEPS);
            System.arraycopy(other.stepNumbers, 0, stepNumbers, 0, MOST_STEPS);
            points = other.points;
            steps = other.steps;
            must = other.must;
            barred = other.barred;
        }

        boolean isPoint(int i) {
            return i >= 0 && i < points;
        }

        boolean isPair(int i, int j) {
            return isPoint(i) && isPoint(j) && i != j;
        }

        void addPoint(int px, int py) {
            if (points < MOST_POINTS) {
                x[points] = px;
                y[points] = py;
                points++;
            }
        }

        void removeLastPoint() {
            if (points > 0) {
                points--;
                must &= ~edgesAt(points);
                barred &= ~edgesAt(points);
            }
        }

        void addStep(int sort, int n) {
            if (steps < MOST_STEPS) {
                stepSorts[steps] = sort;
                stepNumbers[steps] = n;
                steps++;
            }
        }

        int markAt(int edge) {
            if (holds(must, edge)) {
                return MUST;
            }
            return holds(barred, edge) ? BARRED : 0;
        }

        void setMark(int edge, int v) {
            long bit = 1L << edge;
            must = v == MUST ? must | bit : must & ~bit;
            barred = v == BARRED ? barred | bit : barred & ~bit;
        }

        /** Whether a point may lie there, point 'skipped' being looked upon as away. */
        boolean isFree(int px, int py, int skipped) {
            for (int a = 0; a < points; a++) {
                if (a == skipped) {
                    continue;
                }
                if (x[a] == px && y[a] == py) {
                    return false;
                }
                for (int b = a + 1; b < points; b++) {
                    if (b != skipped && side(x[a], y[a], x[b], y[b], px, py) == 0) {
                        return false;
                    }
                }
            }
            return true;
        }

        /** Whether EDGES that MUST be would CROSS with point i at (px, py). */
        boolean wouldCross(int i, int px, int py) {
            int oldX = x[i];
            int oldY = y[i];
            x[i] = px;
            y[i] = py;
            boolean would = mustCross();
            x[i] = oldX;
            y[i] = oldY;
            return would;
        }

        private boolean mustCross() {
            for (int e = 0; e < MOST_EDGES; e++) {
                for (int f = e + 1; f < MOST_EDGES; f++) {
                    if (holds(must, e) && holds(must, f) && doCross(e, f)) {
                        return true;
                    }
                }
            }
            return false;
        }

        boolean doCross(int e, int f) {
            int a = LESSER_END[e];
            int b = GREATER_END[e];
            int c = LESSER_END[f];
            int d = GREATER_END[f];
            boolean shared = a == c || a == d || b == c || b == d;
            return !shared && turnsLeft(a, b, c) != turnsLeft(a, b, d)
                && turnsLeft(c, d, a) != turnsLeft(c, d, b);
        }

        boolean turnsLeft(int a, int b, int c) {
            return side(x[a], y[a], x[b], y[b], x[c], y[c]) > 0;
        }
    }

    /** The latest CHANGES, each kept as all that stood ahead of it. */
    private static final class Past {
        private final Board[] boards = new Board[MOST_CHANGES];
        private int next = 0;
        int size = 0;

        Past() {
            for (int i = 0; i < MOST_CHANGES; i++) {
                boards[i] = new Board();
            }
        }

        void keep(Board board) {
            boards[next].become(board);
            next = (next + 1) % MOST_CHANGES;
            size = Math.min(size + 1, MOST_CHANGES);
        }

        void bringBack(Board board) {
            if (size > 0) {
                next = (next + MOST_CHANGES - 1) % MOST_CHANGES;
                board.become(boards[next]);
                size--;
            }
        }
    }

    /** What follows from where the POINTS lie; found anew only when they lie elsewhere. */
    private static final class Plane {
        final int[] x = new int[MOST_POINTS];
        final int[] y = new int[MOST_POINTS];
        final int[] order = new int[MOST_POINTS];
        final int[] places = new int[MOST_POINTS];
        final int[] hull = new int[MOST_POINTS];
        final long[] crossing = new long[MOST_EDGES];
        private final int[] leftOf = new int[MOST_POINTS * MOST_POINTS];
        int points = 0;
        int hullSize = 0;
        int hullSet = 0;
        /** How often it was found anew, so that others see when what they hold is old. */
        int age = 0;

        void follow(Board board) {
            if (isOf(board)) {
                return;
            }
            points = board.points;
            System.arraycopy(board.x, 0, x, 0, MOST_POINTS);
            System.arraycopy(board.y, 0, y, 0, MOST_POINTS);
            findOrder();
            findSides(board);
            findCrossings(board);
            findHull();
            age++;
        }

        private boolean isOf(Board board) {
            if (points != board.points) {
                return false;
            }
            for (int i = 0; i < points; i++) {
                if (x[i] != board.x[i] || y[i] != board.y[i]) {
                    return false;
                }
            }
            return true;
        }

        private void findOrder() {
            for (int i = 0; i < points; i++) {
                int ahead = 0;
                for (int j = 0; j < points; j++) {
                    if (x[j] < x[i] || x[j] == x[i] && y[j] < y[i]) {
                        ahead++;
                    }
                }
                places[i] = ahead;
                order[ahead] = i;
            }
        }

        private void findSides(Board board) {
            Arrays.fill(leftOf, 0);
            for (int a = 0; a < points; a++) {
                for (int b = a + 1; b < points; b++) {
                    for (int c = b + 1; c < points; c++) {
                        if (board.turnsLeft(a, b, c)) {
                            setLeftTurn(a, b, c);
                        } else {
                            setLeftTurn(a, c, b);
                        }
                    }
                }
            }
        }

        private void setLeftTurn(int a, int b, int c) {
            leftOf[a * MOST_POINTS + b] |= 1 << c;
            leftOf[b * MOST_POINTS + c] |= 1 << a;
            leftOf[c * MOST_POINTS + a] |= 1 << b;
        }

        private void findCrossings(Board board) {
            Arrays.fill(crossing, 0L);
            for (int e = 0; e < MOST_EDGES; e++) {
                for (int f = e + 1; f < MOST_EDGES; f++) {
                    boolean here = GREATER_END[e] < points && GREATER_END[f] < points;
                    if (here && board.doCross(e, f)) {
                        crossing[e] |= 1L << f;
                        crossing[f] |= 1L << e;
                    }
                }
            }
        }

        private void findHull() {
            hullSize = 0;
            hullSet = 0;
            int at = points > 0 ? order[0] : -1;
            for (int k = 0; k < points && at >= 0 && ((hullSet >> at) & 1) == 0; k++) {
                hull[k] = at;
                hullSet |= 1 << at;
                hullSize++;
                at = behindOnHull(at);
            }
        }

        private int behindOnHull(int a) {
            int all = (1 << points) - 1;
            for (int b = 0; b < points; b++) {
                int others = all & ~(1 << a) & ~(1 << b);
                if (b != a && leftOf[a * MOST_POINTS + b] == others) {
                    return b;
                }
            }
            return -1;
        }

        boolean isLeft(int a, int b, int c) {
            return ((leftOf[a * MOST_POINTS + b] >> c) & 1) != 0;
        }

        /** Whether no POINT is WITHIN a, b, c, whichever way these turn. */
        boolean isBare(int a, int b, int c) {
            int ab = leftOf[a * MOST_POINTS + b];
            int bc = leftOf[b * MOST_POINTS + c];
            int ca = leftOf[c * MOST_POINTS + a];
            int ba = leftOf[b * MOST_POINTS + a];
            int cb = leftOf[c * MOST_POINTS + b];
            int ac = leftOf[a * MOST_POINTS + c];
            return (ab & bc & ca) == 0 && (ba & cb & ac) == 0;
        }

        /** Whether no POINT at all is WITHIN any three of the set. */
        boolean isHollow(int set) {
            for (int a = 0; a < points; a++) {
                for (int b = a + 1; b < points; b++) {
                    for (int c = b + 1; c < points; c++) {
                        int three = 1 << a | 1 << b | 1 << c;
                        if ((set & three) == three && !isBare(a, b, c)) {
                            return false;
                        }
                    }
                }
            }
            return true;
        }

        /** The part of THE HULL that a sweep begins with. */
        int lowerPath() {
            int path = 0;
            for (int k = 0; k < hullSize; k++) {
                path |= 1 << hull[k];
                if (hull[k] == order[points - 1]) {
                    return path;
                }
            }
            return path;
        }
    }

    /** The NETS in their order. MARKS only choose among the whole triangulations. */
    private static final class Nets {
        private final long[] whole = new long[MOST_NETS];
        private final long[] waiting = new long[MOST_NETS];
        private int wholeSize = 0;
        private int age = -1;
        private long must = 0;
        private long barred = 0;
        final long[] list = new long[MOST_NETS];
        int size = 0;

        void follow(Plane plane, Board board) {
            boolean sameMarks = must == board.must && barred == board.barred;
            if (age == plane.age && sameMarks) {
                return;
            }
            if (age != plane.age) {
                findWhole(plane);
            }
            age = plane.age;
            must = board.must;
            barred = board.barred;
            size = 0;
            for (int k = 0; k < wholeSize; k++) {
                if ((whole[k] & must) == must && (whole[k] & barred) == 0) {
                    list[size] = whole[k];
                    size++;
                }
            }
        }

        /** Flips lead from any whole triangulation to all others, so any one will do at first. */
        private void findWhole(Plane plane) {
            wholeSize = 0;
            if (plane.points < 3) {
                return;
            }
            meet(greedyNet(plane));
            for (int at = 0; at < wholeSize && at < MOST_NETS; at++) {
                long net = waiting[at];
                for (int e = 0; e < MOST_EDGES; e++) {
                    long crossed = plane.crossing[e] & net;
                    if (Long.bitCount(crossed) == 1) {
                        meet(net ^ crossed ^ (1L << e));
                    }
                }
            }
        }

        private static long greedyNet(Plane plane) {
            long net = 0;
            for (int e = 0; e < MOST_EDGES; e++) {
                if (GREATER_END[e] < plane.points && (plane.crossing[e] & net) == 0) {
                    net |= 1L << e;
                }
            }
            return net;
        }

        private void meet(long net) {
            int spot = spotIn(whole, wholeSize, net);
            boolean known = spot < wholeSize && whole[spot] == net;
            if (known || wholeSize >= MOST_NETS) {
                return;
            }
            System.arraycopy(whole, spot, whole, spot + 1, wholeSize - spot);
            whole[spot] = net;
            waiting[wholeSize] = net;
            wholeSize++;
        }

        /** How many of the rising row are below the net. */
        private static int spotIn(long[] row, int rowSize, long net) {
            int spot = 0;
            for (int leap = 1024; leap > 0; leap >>= 1) {
                if (spot + leap <= rowSize && row[spot + leap - 1] < net) {
                    spot += leap;
                }
            }
            return spot;
        }

        int find(long net) {
            int spot = spotIn(list, size, net);
            return spot < size && list[spot] == net ? spot : -1;
        }

        int holding(int edge) {
            int many = 0;
            for (int k = 0; k < size; k++) {
                if (holds(list[k], edge)) {
                    many++;
                }
            }
            return many;
        }

        long inAll() {
            long edges = -1L;
            for (int k = 0; k < size; k++) {
                edges &= list[k];
            }
            return edges;
        }

        long inAny() {
            long edges = 0;
            for (int k = 0; k < size; k++) {
                edges |= list[k];
            }
            return edges;
        }

        /**
         * The EDGE of the net that goes when e comes, as a bit, or 0. An EDGE that CROSSES one
         * alone lies in the two TRIANGLES at that one, so this is all that a FLIP asks.
         */
        long givenUpFor(int e, long net, Plane plane) {
            long crossed = plane.crossing[e] & net;
            boolean flips = Long.bitCount(crossed) == 1;
            return flips && (crossed & must) == 0 && !holds(barred, e) ? crossed : 0;
        }

        long flippable(int k, Plane plane) {
            long edges = 0;
            for (int e = 0; e < MOST_EDGES; e++) {
                edges |= givenUpFor(e, list[k], plane);
            }
            return edges;
        }

        int flipped(int k, int edge, Plane plane) {
            long bit = 1L << edge;
            for (int e = 0; e < MOST_EDGES; e++) {
                if (givenUpFor(e, list[k], plane) == bit) {
                    return find(list[k] ^ bit ^ (1L << e));
                }
            }
            return -1;
        }
    }

    /** Looks for the fewest FLIPS, all NETS of one distance ahead of those of the next. */
    private static final class FlipSearch {
        private final int[] distance = new int[MOST_NETS];
        private final int[] waiting = new int[MOST_NETS];
        private int met = 0;

        int fewest(int from, int to, Nets nets, Plane plane) {
            Arrays.fill(distance, -1);
            met = 0;
            meet(from, 0);
            for (int at = 0; at < met && at < MOST_NETS && distance[to] < 0; at++) {
                meetAround(waiting[at], nets, plane);
            }
            return distance[to];
        }

        private void meetAround(int k, Nets nets, Plane plane) {
            long net = nets.list[k];
            for (int e = 0; e < MOST_EDGES; e++) {
                long gone = nets.givenUpFor(e, net, plane);
                int other = gone == 0 ? -1 : nets.find(net ^ gone ^ (1L << e));
                if (other >= 0) {
                    meet(other, distance[k] + 1);
                }
            }
        }

        private void meet(int k, int far) {
            if (distance[k] < 0 && met < MOST_NETS) {
                distance[k] = far;
                waiting[met] = k;
                met++;
            }
        }
    }

    /** THE SWEEP of one NET, kept until another one is asked for. */
    private static final class Sweep {
        final int[] paths = new int[MOST_ADVANCES + 1];
        final int[] sets = new int[MOST_ADVANCES];
        final int[] sorts = new int[MOST_ADVANCES];
        int size = 0;
        private long net = 0;
        private int age = -1;

        void follow(long wanted, Plane plane) {
            if (net == wanted && age == plane.age) {
                return;
            }
            net = wanted;
            age = plane.age;
            size = 0;
            paths[0] = plane.lowerPath();
            boolean going = true;
            for (int t = 0; t < MOST_ADVANCES && going; t++) {
                going = goOn(plane);
            }
        }

        private boolean goOn(Plane plane) {
            for (int place = 0; place < plane.points; place++) {
                boolean on = isOn(place, plane);
                if (on && (comesBehind(place, plane) || goesBehind(place, plane))) {
                    return true;
                }
            }
            return false;
        }

        private boolean isOn(int place, Plane plane) {
            return ((paths[size] >> plane.order[place]) & 1) != 0;
        }

        /** The next place on THE PATH, or as many as there are POINTS. */
        private int nextOn(int place, Plane plane) {
            for (int later = place + 1; later < plane.points; later++) {
                if (isOn(later, plane)) {
                    return later;
                }
            }
            return plane.points;
        }

        private boolean comesBehind(int place, Plane plane) {
            int next = nextOn(place, plane);
            if (next >= plane.points) {
                return false;
            }
            int a = plane.order[place];
            int b = plane.order[next];
            for (int between = place + 1; between < next; between++) {
                int c = plane.order[between];
                if (plane.isLeft(a, b, c) && isTriangle(a, b, c, plane)) {
                    add(a, b, c, 0);
                    return true;
                }
            }
            return false;
        }

        private boolean goesBehind(int place, Plane plane) {
            int middle = nextOn(place, plane);
            int next = nextOn(middle, plane);
            if (middle >= plane.points || next >= plane.points) {
                return false;
            }
            int a = plane.order[place];
            int c = plane.order[middle];
            int b = plane.order[next];
            boolean goes = plane.isLeft(a, c, b) && isTriangle(a, b, c, plane);
            if (goes) {
                add(a, b, c, 1);
            }
            return goes;
        }

        private boolean isTriangle(int a, int b, int c, Plane plane) {
            return holds(net, edgeOf(a, b)) && holds(net, edgeOf(b, c))
                && holds(net, edgeOf(a, c)) && plane.isBare(a, b, c);
        }

        private void add(int a, int b, int c, int sort) {
            if (size < MOST_ADVANCES) {
                sets[size] = 1 << a | 1 << b | 1 << c;
                sorts[size] = sort;
                // Either sort changes only whether c is on THE PATH.
                paths[size + 1] = paths[size] ^ 1 << c;
                size++;
            }
        }
    }

    /** Counts WAYS by where they have come to. */
    private static final class Ways {
        private final int[] upTo = new int[MOST_POINTS];

        int total(Plane plane, long barred) {
            if (plane.points < 2) {
                return 0;
            }
            upTo[0] = 1;
            for (int to = 1; to < plane.points; to++) {
                upTo[to] = 0;
                for (int from = 0; from < to; from++) {
                    if (!holds(barred, edgeOf(plane.order[from], plane.order[to]))) {
                        upTo[to] += upTo[from];
                    }
                }
            }
            return upTo[plane.points - 1];
        }
    }

    /** A long that is reckoned with, and whether anything on the way to it was none. */
    private static final class Meter {
        /** The greatest number whose square is a long. */
        private static final long GREATEST_ROOT = 3037000499L;

        private final long[] ofEdges = new long[MOST_EDGES];
        private long overEdges = 0;
        long value = 0;
        boolean over = false;

        void start(long v) {
            value = v;
            over = false;
        }

        void takeSteps(Board board) {
            for (int i = 0; i < board.steps && !over; i++) {
                takeStep(board.stepSorts[i], board.stepNumbers[i]);
            }
        }

        private void takeStep(int sort, int n) {
            switch (sort) {
                case 0:
                    plus(n);
                    break;
                case 1:
                    times(n);
                    break;
                case 2:
                    value = n == 0 ? value : value % n;
                    break;
                case 3:
                    value = Math.max(value, n);
                    break;
                case 4:
                    value = Math.min(value, n);
                    break;
                case 5:
                    takenFrom(n);
                    break;
                default:
                    square();
                    break;
            }
        }

        private void plus(long n) {
            long sum = value + n;
            over = over || ((value ^ sum) & (n ^ sum)) < 0;
            value = sum;
        }

        private void takenFrom(long n) {
            long rest = n - value;
            over = over || ((n ^ value) & (n ^ rest)) < 0;
            value = rest;
        }

        private void times(long n) {
            if (n == 0) {
                value = 0;
                return;
            }
            // Dividing back tells it, but for the one quotient that is itself no long.
            boolean unlike = value == Long.MIN_VALUE && n == -1 || value * n / n != value;
            over = over || unlike;
            value = value * n;
        }

        private void square() {
            over = over || value > GREATEST_ROOT || value < -GREATEST_ROOT;
            value = value * value;
        }

        void measureEdge(Board board, int edge, int rule) {
            start(byRule(board, edge, rule));
            takeSteps(board);
        }

        private static long byRule(Board board, int edge, int rule) {
            int i = LESSER_END[edge];
            int j = GREATER_END[edge];
            long dx = Math.abs(board.x[i] - board.x[j]);
            long dy = Math.abs(board.y[i] - board.y[j]);
            switch (rule) {
                case 0:
                    return 1;
                case 1:
                    return dx * dx + dy * dy;
                case 2:
                    return dx + dy;
                case 3:
                    return Math.max(dx, dy);
                case 4:
                    return Math.min(dx, dy);
                case 5:
                    return i + j;
                default:
                    return (i + 1) * (j + 1);
            }
        }

        /** Measures all EDGES ahead of the NETS that share them. */
        void measureEdges(Board board, int rule) {
            overEdges = 0;
            for (int e = 0; e < MOST_EDGES; e++) {
                if (GREATER_END[e] < board.points) {
                    measureEdge(board, e, rule);
                    ofEdges[e] = value;
                    overEdges |= over ? 1L << e : 0L;
                }
            }
        }

        void measureNet(long net, int fold) {
            start(0);
            over = (net & overEdges) != 0;
            boolean first = true;
            for (int e = 0; e < MOST_EDGES && !over; e++) {
                if (holds(net, e)) {
                    if (first) {
                        value = ofEdges[e];
                    } else {
                        foldIn(ofEdges[e], fold);
                    }
                    first = false;
                }
            }
        }

        private void foldIn(long v, int fold) {
            switch (fold) {
                case 0:
                    plus(v);
                    break;
                case 1:
                    value = Math.max(value, v);
                    break;
                case 2:
                    value = Math.min(value, v);
                    break;
                default:
                    value = value ^ v;
                    break;
            }
        }

        /** The number of the NET that measures least, or -1 if one is OVER. */
        int leastOf(Nets nets, int fold) {
            int least = -1;
            long leastValue = 0;
            for (int k = 0; k < nets.size; k++) {
                measureNet(nets.list[k], fold);
                if (over) {
                    return -1;
                }
                if (least < 0 || value < leastValue) {
                    least = k;
                    leastValue = value;
                }
            }
            return least;
        }
    }

    /** A POLYGON as read from a SHEET, its corners laid so that its inside is left of them. */
    private static final class Polygon {
        private final int[] corners = new int[MOST_POINTS];
        private final int[] splits = new int[MOST_POINTS * MOST_POINTS];
        private int size = 0;
        private int cornerSet = 0;
        private long sides = 0;
        int twiceArea = 0;

        boolean read(Sheet sheet, Plane plane) {
            if (!readCorners(sheet, plane) || !readSides(plane)) {
                return false;
            }
            twiceArea = signedArea(plane);
            if (twiceArea < 0) {
                turnRound();
                twiceArea = -twiceArea;
            }
            return true;
        }

        private boolean readCorners(Sheet sheet, Plane plane) {
            size = 0;
            cornerSet = 0;
            if (sheet.size < 3 || sheet.size > plane.points) {
                return false;
            }
            for (int i = 0; i < sheet.size; i++) {
                long number = sheet.numbers[i];
                if (number < 0 || number >= plane.points) {
                    return false;
                }
                int corner = (int) number;
                if (((cornerSet >> corner) & 1) != 0) {
                    return false;
                }
                corners[size] = corner;
                cornerSet |= 1 << corner;
                size++;
            }
            return true;
        }

        private boolean readSides(Plane plane) {
            sides = 0;
            for (int i = 0; i < size; i++) {
                int side = edgeOf(corners[i], corners[behind(i)]);
                if ((plane.crossing[side] & sides) != 0) {
                    return false;
                }
                sides |= 1L << side;
            }
            return true;
        }

        private int behind(int i) {
            return i + 1 < size ? i + 1 : 0;
        }

        private int ahead(int i) {
            return i > 0 ? i - 1 : size - 1;
        }

        private int signedArea(Plane plane) {
            int sum = 0;
            for (int i = 0; i < size; i++) {
                int a = corners[i];
                int b = corners[behind(i)];
                sum += plane.x[a] * plane.y[b] - plane.x[b] * plane.y[a];
            }
            return sum;
        }

        private void turnRound() {
            for (int i = 0; i < size / 2; i++) {
                int held = corners[i];
                corners[i] = corners[size - 1 - i];
                corners[size - 1 - i] = held;
            }
        }

        /** Each SPLIT has one triangle at the side of the last corner to the first, and so on. */
        int splitCount(Plane plane) {
            for (int gap = 1; gap < size; gap++) {
                for (int i = 0; i + gap < size; i++) {
                    int j = i + gap;
                    splits[i * MOST_POINTS + j] = gap == 1 ? 1 : splitsBetween(i, j, plane);
                }
            }
            return size < 3 ? 0 : splits[size - 1];
        }

        private int splitsBetween(int i, int j, Plane plane) {
            int sum = 0;
            if (isJoined(i, j, plane)) {
                for (int k = i + 1; k < j; k++) {
                    sum += splits[i * MOST_POINTS + k] * splits[k * MOST_POINTS + j];
                }
            }
            return sum;
        }

        private boolean isJoined(int i, int j, Plane plane) {
            int edge = edgeOf(corners[i], corners[j]);
            return holds(sides, edge)
                || (plane.crossing[edge] & sides) == 0 && leavesInward(i, j, plane);
        }

        /** Whether the way from corner i to corner j begins inside the angle at i. */
        private boolean leavesInward(int i, int j, Plane plane) {
            int a = corners[i];
            int b = corners[j];
            int before = corners[ahead(i)];
            int after = corners[behind(i)];
            if (plane.isLeft(before, a, after)) {
                return plane.isLeft(a, b, before) && plane.isLeft(b, a, after);
            }
            return !(plane.isLeft(a, b, after) && plane.isLeft(b, a, before));
        }

        int pointsInside(Plane plane) {
            int set = 0;
            for (int p = 0; p < plane.points; p++) {
                if (((cornerSet >> p) & 1) == 0 && isInside(p, plane)) {
                    set |= 1 << p;
                }
            }
            return set;
        }

        /** A ray to the right leaves an odd number of times from inside. */
        private boolean isInside(int p, Plane plane) {
            boolean inside = false;
            int height = plane.y[p];
            for (int i = 0; i < size; i++) {
                int a = corners[i];
                int b = corners[behind(i)];
                boolean rises = plane.y[b] > plane.y[a];
                boolean spans = (plane.y[a] > height) != (plane.y[b] > height);
                if (spans && plane.isLeft(a, b, p) == rises) {
                    inside = !inside;
                }
            }
            return inside;
        }
    }

    /** ROWS OF ADVANCES. */
    private static final class Rows {
        final int[] sets = new int[MOST_ADVANCES];
        final int[] sorts = new int[MOST_ADVANCES];
        int size = 0;

        void take(Sweep sweep) {
            size = sweep.size;
            System.arraycopy(sweep.sets, 0, sets, 0, size);
            System.arraycopy(sweep.sorts, 0, sorts, 0, size);
        }

        boolean has(int i, int what) {
            return i >= 0 && i < size && what >= 0 && what <= 1;
        }

        /** The first row that isn't the sweep's, lacks, or is too many, or -1. */
        int firstUnlike(Sweep sweep) {
            int both = Math.min(size, sweep.size);
            for (int i = 0; i < both; i++) {
                if (sets[i] != sweep.sets[i] || sorts[i] != sweep.sorts[i]) {
                    return i;
                }
            }
            return size == sweep.size ? -1 : both;
        }
    }

    /** A row of numbers of one sort, held as longs that are cut to that sort. */
    private static final class Sheet {
        final long[] numbers = new long[MOST_NUMBERS];
        int sort = NO_SHEET;
        int size = 0;

        void lay(int newSort, int newSize) {
            Arrays.fill(numbers, 0L);
            sort = newSort;
            size = newSize;
        }

        boolean isMissing() {
            return sort == NO_SHEET;
        }

        void put(int i, long v) {
            if (sort == BYTES) {
                numbers[i] = (byte) v;
            } else if (sort == INTS) {
                numbers[i] = (int) v;
            } else {
                numbers[i] = v;
            }
        }

        boolean hasRun(int i, int n) {
            return i >= 0 && n >= 0 && (long) i + n <= size;
        }
    }
}
