import java.math.BigInteger;
import java.util.ArrayDeque;
import java.util.ArrayList;
import java.util.Arrays;
import java.util.HashMap;
import java.util.List;
import java.util.Map;
import java.util.TreeSet;

/**
 * The document once more, read as literally as can be and by other means than the class: maximal
 * sets by a search for cliques, triangles and sweeps from their definitions, big integers for OVER.
 */
final class Reference {
    static final int LOW = -1000001;
    static final long LONG_LOW = -1000000000000000001L;

    /** POINTS, MARKS, STEPS: what a CHANGE changes. Never altered once it has been kept. */
    record Held(List<int[]> points, Map<Integer, Integer> marks, List<int[]> steps) {
        Held twin() {
            return new Held(new ArrayList<>(points), new HashMap<>(marks), new ArrayList<>(steps));
        }
    }

    private Held held = new Held(new ArrayList<>(), new HashMap<>(), new ArrayList<>());
    private final List<Held> kept = new ArrayList<>();
    private final int[] told = new int[8];
    private final long[][] sheets = new long[4][];
    private final int[] sorts = new int[4];
    private List<int[]> rows = new ArrayList<>();
    private int z = 1;
    private List<Long> netsKnown;

    private int f(int k) {
        told[k]++;
        return LOW - k;
    }

    private long lf(int k) {
        told[k]++;
        return LONG_LOW - k;
    }

    private void change() {
        kept.add(held.twin());
        if (kept.size() > 40) {
            kept.remove(0);
        }
        netsKnown = null;
    }

    private int n() {
        return held.points.size();
    }

    private boolean point(int i) {
        return 0 <= i && i < n();
    }

    private static int det(int[] a, int[] b, int[] c) {
        return (b[0] - a[0]) * (c[1] - a[1]) - (b[1] - a[1]) * (c[0] - a[0]);
    }

    private int[] p(int i) {
        return held.points.get(i);
    }

    private boolean left(int a, int b, int c) {
        return det(p(a), p(b), p(c)) > 0;
    }

    static int number(int i, int j) {
        int e = 0;
        for (int a = 0; a < 9; a++) {
            for (int b = a + 1; b < 9; b++) {
                if (a == Math.min(i, j) && b == Math.max(i, j)) {
                    return e;
                }
                e++;
            }
        }
        throw new IllegalStateException();
    }

    static int[] ends(int edge) {
        for (int a = 0; a < 9; a++) {
            for (int b = a + 1; b < 9; b++) {
                if (number(a, b) == edge) {
                    return new int[] {a, b};
                }
            }
        }
        throw new IllegalStateException();
    }

    private boolean cross(int a, int b, int c, int d) {
        if (a == c || a == d || b == c || b == d) {
            return false;
        }
        return left(a, b, c) != left(a, b, d) && left(c, d, a) != left(c, d, b);
    }

    private boolean inThree(int q, int a, int b, int c) {
        if (q == a || q == b || q == c) {
            return false;
        }
        boolean one = left(a, b, q);
        return one == left(b, c, q) && one == left(c, a, q);
    }

    private boolean badPlace(int x, int y, int skip) {
        int[] q = {x, y};
        for (int a = 0; a < n(); a++) {
            for (int b = 0; b < n(); b++) {
                if (a == skip || b == skip) {
                    continue;
                }
                if (a == b ? Arrays.equals(p(a), q) : det(p(a), p(b), q) == 0) {
                    return true;
                }
            }
        }
        return false;
    }

    private boolean mustsCross() {
        for (int e : held.marks.keySet()) {
            for (int g : held.marks.keySet()) {
                int[] s = ends(e);
                int[] t = ends(g);
                if (held.marks.get(e) == 1 && held.marks.get(g) == 1
                    && cross(s[0], s[1], t[0], t[1])) {
                    return true;
                }
            }
        }
        return false;
    }

    private static boolean near(int v) {
        return Math.abs((long) v) <= 99;
    }

    int place(int x, int y) {
        if (!near(x) || !near(y)) {
            return f(0);
        }
        if (n() == 9) {
            return f(1);
        }
        if (badPlace(x, y, -1)) {
            return f(4);
        }
        change();
        held.points.add(new int[] {x, y});
        return n() - 1;
    }

    int drop() {
        if (n() == 0) {
            return f(3);
        }
        change();
        int gone = n() - 1;
        held.points.remove(gone);
        held.marks.keySet().removeIf(e -> ends(e)[1] == gone);
        return gone;
    }

    int move(int i, int x, int y) {
        if (!point(i) || !near(x) || !near(y)) {
            return f(0);
        }
        if (badPlace(x, y, i)) {
            return f(4);
        }
        int[] old = p(i);
        held.points.set(i, new int[] {x, y});
        boolean crossing = mustsCross();
        held.points.set(i, old);
        if (crossing) {
            return f(4);
        }
        change();
        held.points.set(i, new int[] {x, y});
        return 1;
    }

    private List<Integer> order() {
        List<Integer> list = new ArrayList<>();
        for (int i = 0; i < n(); i++) {
            list.add(i);
        }
        list.sort((a, b) -> p(a)[0] != p(b)[0] ? p(a)[0] - p(b)[0] : p(a)[1] - p(b)[1]);
        return list;
    }

    private boolean onHull(int q) {
        for (int a = 0; a < n(); a++) {
            for (int b = 0; b < n(); b++) {
                for (int c = 0; c < n(); c++) {
                    if (a != b && b != c && a != c && inThree(q, a, b, c)) {
                        return false;
                    }
                }
            }
        }
        return true;
    }

    int at(int i, int what) {
        if (!point(i) || what < 0 || what > 3) {
            return f(0);
        }
        return what < 2 ? p(i)[what] : what == 2 ? order().indexOf(i) : onHull(i) ? 1 : 0;
    }

    private boolean two(int i, int j) {
        return point(i) && point(j) && i != j;
    }

    int mark(int i, int j, int v) {
        if (!two(i, j) || v < 0 || v > 2) {
            return f(0);
        }
        int e = number(i, j);
        int was = held.marks.getOrDefault(e, 0);
        if (v == 1) {
            for (int g : held.marks.keySet()) {
                if (held.marks.get(g) == 1 && cross(i, j, ends(g)[0], ends(g)[1])) {
                    return f(4);
                }
            }
        }
        change();
        held.marks.put(e, v);
        return was;
    }

    int markOf(int i, int j) {
        return two(i, j) ? held.marks.getOrDefault(number(i, j), 0) : f(0);
    }

    int turn(int a, int b, int c) {
        return two(a, b) && two(b, c) && two(a, c) ? left(a, b, c) ? 1 : -1 : f(0);
    }

    int crosses(int a, int b, int c, int d) {
        return two(a, b) && two(c, d) ? cross(a, b, c, d) ? 1 : 0 : f(0);
    }

    private List<Integer> hullList() {
        List<Integer> list = new ArrayList<>();
        List<Integer> hull = new ArrayList<>();
        for (int i : order()) {
            if (onHull(i)) {
                hull.add(i);
            }
        }
        if (hull.isEmpty()) {
            return list;
        }
        list.add(hull.get(0));
        while (list.size() < hull.size()) {
            int a = list.get(list.size() - 1);
            for (int b : hull) {
                boolean all = a != b;
                for (int c : hull) {
                    all = all && (c == a || c == b || left(a, b, c));
                }
                if (all) {
                    list.add(b);
                    break;
                }
            }
        }
        return list;
    }

    int hull(int k) {
        List<Integer> list = hullList();
        if (k == -1) {
            return list.size();
        }
        return k < 0 || k >= list.size() ? f(3) : list.get(k);
    }

    private List<Long> all() {
        if (netsKnown != null) {
            return netsKnown;
        }
        TreeSet<Long> found = new TreeSet<>();
        if (n() >= 3) {
            long[] friends = new long[36];
            long every = 0;
            for (int a = 0; a < n(); a++) {
                for (int b = a + 1; b < n(); b++) {
                    every |= 1L << number(a, b);
                    for (int c = 0; c < n(); c++) {
                        for (int d = c + 1; d < n(); d++) {
                            if ((a != c || b != d) && !cross(a, b, c, d)) {
                                friends[number(a, b)] |= 1L << number(c, d);
                            }
                        }
                    }
                }
            }
            cliques(0, every, 0, friends, found);
        }
        netsKnown = new ArrayList<>();
        for (long net : found) {
            boolean fits = true;
            for (int e : held.marks.keySet()) {
                boolean in = (net >> e & 1) == 1;
                fits = fits && (held.marks.get(e) != 1 || in) && (held.marks.get(e) != 2 || !in);
            }
            if (fits) {
                netsKnown.add(net);
            }
        }
        return netsKnown;
    }

    /** Bron and Kerbosch: each maximal set of EDGES that CROSS none of one another. */
    private static void cliques(long in, long may, long out, long[] friends, TreeSet<Long> found) {
        if (may == 0 && out == 0) {
            found.add(in);
            return;
        }
        int pivot = Long.numberOfTrailingZeros(may | out);
        for (int e = 0; e < 36; e++) {
            long bit = 1L << e;
            if ((may & bit) != 0 && (friends[pivot] & bit) == 0) {
                cliques(in | bit, may & friends[e], out & friends[e], friends, found);
                may &= ~bit;
                out |= bit;
            }
        }
    }

    int nets() {
        return all().size();
    }

    private boolean net0(int k) {
        return 0 <= k && k < all().size();
    }

    long net(int k) {
        return net0(k) ? all().get(k) : lf(3);
    }

    int rank(long net) {
        int k = all().indexOf(net);
        return k < 0 ? f(3) : k;
    }

    int with(int i, int j) {
        if (!two(i, j)) {
            return f(0);
        }
        int many = 0;
        for (long net : all()) {
            many += has(net, i, j) ? 1 : 0;
        }
        return many;
    }

    private static boolean has(long net, int i, int j) {
        return (net >> number(i, j) & 1) == 1;
    }

    long always(int what) {
        if (what != 0 && what != 1) {
            return lf(0);
        }
        if (all().isEmpty()) {
            return lf(3);
        }
        long set = what == 0 ? -1 : 0;
        for (long net : all()) {
            set = what == 0 ? set & net : set | net;
        }
        return set;
    }

    int draw() {
        if (all().isEmpty()) {
            return f(3);
        }
        z = z * 1103515245 + 12345;
        return (z >>> 8) % all().size();
    }

    private boolean triangle(long net, int a, int b, int c) {
        if (!has(net, a, b) || !has(net, b, c) || !has(net, a, c)) {
            return false;
        }
        for (int q = 0; q < n(); q++) {
            if (inThree(q, a, b, c)) {
                return false;
            }
        }
        return true;
    }

    int fan(int k, int i) {
        if (!point(i)) {
            return f(0);
        }
        if (!net0(k)) {
            return f(3);
        }
        int many = 0;
        for (int a = 0; a < n(); a++) {
            for (int b = a + 1; b < n(); b++) {
                many += a != i && b != i && triangle(all().get(k), i, a, b) ? 1 : 0;
            }
        }
        return many;
    }

    /** What a FLIP of a, b makes of the net, or -1. */
    private long flipped(long net, int a, int b) {
        if (!has(net, a, b)) {
            return -1;
        }
        for (int c = 0; c < n(); c++) {
            for (int d = c + 1; d < n(); d++) {
                if (c == a || c == b || d == a || d == b) {
                    continue;
                }
                if (triangle(net, a, b, c) && triangle(net, a, b, d) && cross(a, b, c, d)) {
                    long made = net & ~(1L << number(a, b)) | 1L << number(c, d);
                    return all().contains(made) ? made : -1;
                }
            }
        }
        return -1;
    }

    long flips(int k) {
        if (!net0(k)) {
            return lf(3);
        }
        long set = 0;
        for (int a = 0; a < n(); a++) {
            for (int b = a + 1; b < n(); b++) {
                if (flipped(all().get(k), a, b) >= 0) {
                    set |= 1L << number(a, b);
                }
            }
        }
        return set;
    }

    int flip(int k, int i, int j) {
        if (!two(i, j)) {
            return f(0);
        }
        if (!net0(k)) {
            return f(3);
        }
        long made = flipped(all().get(k), i, j);
        return made < 0 ? f(3) : all().indexOf(made);
    }

    int apart(int k, int l) {
        if (!net0(k) || !net0(l)) {
            return f(3);
        }
        Map<Long, Integer> far = new HashMap<>();
        ArrayDeque<Long> next = new ArrayDeque<>();
        far.put(all().get(k), 0);
        next.add(all().get(k));
        while (!next.isEmpty() && !far.containsKey(all().get(l))) {
            long net = next.remove();
            for (int a = 0; a < n(); a++) {
                for (int b = a + 1; b < n(); b++) {
                    long made = flipped(net, a, b);
                    if (made >= 0 && !far.containsKey(made)) {
                        far.put(made, far.get(net) + 1);
                        next.add(made);
                    }
                }
            }
        }
        Integer found = far.get(all().get(l));
        return found == null ? f(3) : found;
    }

    /** Rows of: THE PATH ahead, the three POINTS, the sort; and last THE PATH alone. */
    private List<int[]> sweep(long net) {
        List<Integer> order = order();
        List<Integer> path = new ArrayList<>();
        int last = order.get(n() - 1);
        for (int i : hullList()) {
            path.add(i);
            if (i == last) {
                break;
            }
        }
        List<int[]> found = new ArrayList<>();
        boolean going = true;
        while (going) {
            int set = 0;
            for (int i : path) {
                set |= 1 << i;
            }
            int[] advance = next(net, path, order);
            going = advance != null;
            found.add(going ? new int[] {set, advance[0], advance[1]} : new int[] {set});
        }
        return found;
    }

    private int[] next(long net, List<Integer> path, List<Integer> order) {
        for (int at = 0; at + 1 < path.size(); at++) {
            int a = path.get(at);
            int b = path.get(at + 1);
            for (int c : order) {
                boolean between = order.indexOf(a) < order.indexOf(c)
                    && order.indexOf(c) < order.indexOf(b);
                if (between && left(a, b, c) && triangle(net, a, b, c)) {
                    path.add(at + 1, c);
                    return new int[] {1 << a | 1 << b | 1 << c, 0};
                }
            }
            if (at + 2 < path.size()) {
                int d = path.get(at + 2);
                if (triangle(net, a, b, d) && left(a, b, d)) {
                    path.remove(at + 1);
                    return new int[] {1 << a | 1 << b | 1 << d, 1};
                }
            }
        }
        return null;
    }

    int path(int k, int t) {
        if (!net0(k)) {
            return f(3);
        }
        List<int[]> sweep = sweep(all().get(k));
        return t < 0 || t >= sweep.size() ? f(3) : sweep.get(t)[0];
    }

    int advance(int k, int t, int what) {
        if (what != 0 && what != 1) {
            return f(0);
        }
        if (!net0(k)) {
            return f(3);
        }
        List<int[]> sweep = sweep(all().get(k));
        return t < 0 || t >= sweep.size() - 1 ? f(3) : sweep.get(t)[1 + what];
    }

    int ways() {
        if (n() < 2) {
            return 0;
        }
        List<Integer> order = order();
        int many = 0;
        for (int set = 0; set < 1 << n(); set++) {
            List<Integer> on = new ArrayList<>();
            for (int i : order) {
                if ((set >> i & 1) == 1) {
                    on.add(i);
                }
            }
            boolean fits = on.contains(order.get(0)) && on.contains(order.get(n() - 1));
            for (int at = 0; at + 1 < on.size(); at++) {
                int e = number(on.get(at), on.get(at + 1));
                fits = fits && held.marks.getOrDefault(e, 0) != 2;
            }
            many += fits ? 1 : 0;
        }
        return many;
    }

    int step(int sort, int n) {
        if (sort < 0 || sort > 6 || !near(n)) {
            return f(0);
        }
        if (held.steps.size() == 8) {
            return f(1);
        }
        change();
        held.steps.add(new int[] {sort, n});
        return held.steps.size();
    }

    int stepOf(int i, int what) {
        boolean there = i >= 0 && i < held.steps.size() && (what == 0 || what == 1);
        return there ? held.steps.get(i)[what] : f(0);
    }

    int clear() {
        int were = held.steps.size();
        change();
        held.steps.clear();
        return were;
    }

    private static boolean isLong(BigInteger v) {
        return v.bitLength() <= 63;
    }

    /** null: OVER. */
    private BigInteger byAll(BigInteger v) {
        for (int[] step : held.steps) {
            BigInteger n = BigInteger.valueOf(step[1]);
            switch (step[0]) {
                case 0 -> v = v.add(n);
                case 1 -> v = v.multiply(n);
                case 2 -> v = step[1] == 0 ? v : v.remainder(n);
                case 3 -> v = v.max(n);
                case 4 -> v = v.min(n);
                case 5 -> v = n.subtract(v);
                default -> v = v.multiply(v);
            }
            if (!isLong(v)) {
                return null;
            }
        }
        return v;
    }

    long chain(long v) {
        BigInteger made = byAll(BigInteger.valueOf(v));
        return made == null ? lf(7) : made.longValue();
    }

    private BigInteger edge(int i, int j, int rule) {
        int dx = Math.abs(p(i)[0] - p(j)[0]);
        int dy = Math.abs(p(i)[1] - p(j)[1]);
        int[] all = {1, dx * dx + dy * dy, dx + dy, Math.max(dx, dy), Math.min(dx, dy), i + j,
            (i + 1) * (j + 1)};
        return byAll(BigInteger.valueOf(all[rule]));
    }

    long ofEdge(int i, int j, int rule) {
        if (!two(i, j) || rule < 0 || rule > 6) {
            return lf(0);
        }
        BigInteger made = edge(i, j, rule);
        return made == null ? lf(7) : made.longValue();
    }

    private BigInteger measure(long net, int rule, int fold) {
        BigInteger sum = null;
        for (int e = 0; e < 36; e++) {
            if ((net >> e & 1) == 0) {
                continue;
            }
            BigInteger v = edge(ends(e)[0], ends(e)[1], rule);
            if (v == null) {
                return null;
            }
            sum = sum == null ? v : fold == 0 ? sum.add(v) : fold == 1 ? sum.max(v)
                : fold == 2 ? sum.min(v) : sum.xor(v);
            if (!isLong(sum)) {
                return null;
            }
        }
        return sum;
    }

    long ofNet(int k, int rule, int fold) {
        if (rule < 0 || rule > 6 || fold < 0 || fold > 3) {
            return lf(0);
        }
        if (!net0(k)) {
            return lf(3);
        }
        BigInteger made = measure(all().get(k), rule, fold);
        return made == null ? lf(7) : made.longValue();
    }

    int best(int rule, int fold) {
        if (rule < 0 || rule > 6 || fold < 0 || fold > 3) {
            return f(0);
        }
        if (all().isEmpty()) {
            return f(3);
        }
        int best = -1;
        BigInteger least = null;
        for (int k = 0; k < all().size(); k++) {
            BigInteger v = measure(all().get(k), rule, fold);
            if (v == null) {
                return f(7);
            }
            if (least == null || v.compareTo(least) < 0) {
                least = v;
                best = k;
            }
        }
        return best;
    }

    /** The finding that a sheet is no POLYGON by, or -1. */
    private int noPolygon(int s) {
        if (s < 0 || s > 3) {
            return 0;
        }
        if (sheets[s] == null) {
            return 5;
        }
        long[] row = sheets[s];
        if (row.length < 3) {
            return 4;
        }
        for (int i = 0; i < row.length; i++) {
            if (row[i] < 0 || row[i] >= n()) {
                return 4;
            }
            for (int j = 0; j < i; j++) {
                if (row[i] == row[j]) {
                    return 4;
                }
            }
        }
        int[] c = corners(s);
        for (int i = 0; i < c.length; i++) {
            for (int j = 0; j < c.length; j++) {
                if (cross(c[i], c[(i + 1) % c.length], c[j], c[(j + 1) % c.length])) {
                    return 4;
                }
            }
        }
        return -1;
    }

    private int[] corners(int s) {
        int[] c = new int[sheets[s].length];
        for (int i = 0; i < c.length; i++) {
            c[i] = (int) sheets[s][i];
        }
        return c;
    }

    /** Whether (x / 2, y / 2) is inside, by how often the corners wind round it. */
    private boolean inside(int[] c, int x, int y) {
        double angle = 0;
        for (int i = 0; i < c.length; i++) {
            int[] a = p(c[i]);
            int[] b = p(c[(i + 1) % c.length]);
            double ax = a[0] - x / 2.0;
            double ay = a[1] - y / 2.0;
            double bx = b[0] - x / 2.0;
            double by = b[1] - y / 2.0;
            angle += Math.atan2(ax * by - ay * bx, ax * bx + ay * by);
        }
        return Math.abs(angle) > 3;
    }

    int splits(int s) {
        int no = noPolygon(s);
        if (no >= 0) {
            return f(no);
        }
        int[] c = corners(s);
        int m = c.length;
        List<int[]> inner = new ArrayList<>();
        for (int i = 0; i < m; i++) {
            for (int j = i + 2; j < m; j++) {
                boolean runs = !(i == 0 && j == m - 1);
                for (int k = 0; k < m; k++) {
                    runs = runs && !cross(c[i], c[j], c[k], c[(k + 1) % m]);
                }
                int x = p(c[i])[0] + p(c[j])[0];
                int y = p(c[i])[1] + p(c[j])[1];
                if (runs && inside(c, x, y)) {
                    inner.add(new int[] {c[i], c[j]});
                }
            }
        }
        long[] friends = new long[36];
        for (int e = 0; e < inner.size(); e++) {
            for (int g = 0; g < inner.size(); g++) {
                if (e != g && !cross(inner.get(e)[0], inner.get(e)[1], inner.get(g)[0],
                    inner.get(g)[1])) {
                    friends[e] |= 1L << g;
                }
            }
        }
        TreeSet<Long> found = new TreeSet<>();
        cliques(0, (1L << inner.size()) - 1, 0, friends, found);
        return found.size();
    }

    int area(int s) {
        int no = noPolygon(s);
        if (no >= 0) {
            return f(no);
        }
        int[] c = corners(s);
        int sum = 0;
        for (int i = 1; i + 1 < c.length; i++) {
            sum += det(p(c[0]), p(c[i]), p(c[i + 1]));
        }
        return Math.abs(sum);
    }

    int within(int s) {
        int no = noPolygon(s);
        if (no >= 0) {
            return f(no);
        }
        int[] c = corners(s);
        int set = 0;
        for (int q = 0; q < n(); q++) {
            boolean corner = false;
            for (int i : c) {
                corner = corner || i == q;
            }
            if (!corner && inside(c, 2 * p(q)[0], 2 * p(q)[1])) {
                set |= 1 << q;
            }
        }
        return set;
    }

    int empty(int k) {
        if (k < 3 || k > 6) {
            return f(0);
        }
        int many = 0;
        for (int set = 0; set < 1 << n(); set++) {
            if (Integer.bitCount(set) == k && hollow(set)) {
                many++;
            }
        }
        return many;
    }

    private boolean hollow(int set) {
        for (int a = 0; a < n(); a++) {
            for (int b = 0; b < a; b++) {
                for (int c = 0; c < b; c++) {
                    boolean in = (set >> a & set >> b & set >> c & 1) == 1;
                    for (int q = 0; q < n() && in; q++) {
                        if (inThree(q, a, b, c)) {
                            return false;
                        }
                    }
                }
            }
        }
        return true;
    }

    private List<int[]> advances(int k) {
        List<int[]> found = new ArrayList<>();
        for (int[] row : sweep(all().get(k))) {
            if (row.length == 3) {
                found.add(new int[] {row[1], row[2]});
            }
        }
        return found;
    }

    int prove(int k) {
        if (!net0(k)) {
            return f(3);
        }
        rows = advances(k);
        return rows.size();
    }

    private boolean noRow(int i, int what) {
        return i < 0 || i >= rows.size() || what < 0 || what > 1;
    }

    int row(int i, int what) {
        return noRow(i, what) ? f(0) : rows.get(i)[what];
    }

    int alter(int i, int what, int v) {
        if (noRow(i, what)) {
            return f(0);
        }
        int was = rows.get(i)[what];
        rows.get(i)[what] = v;
        return was;
    }

    int judge(int k) {
        if (!net0(k)) {
            return f(3);
        }
        List<int[]> due = advances(k);
        for (int i = 0; i < Math.max(due.size(), rows.size()); i++) {
            if (i >= due.size() || i >= rows.size() || !Arrays.equals(due.get(i), rows.get(i))) {
                return 1 + i;
            }
        }
        return 0;
    }

    int sheet(int s, int sort, int n) {
        if (s < 0 || s > 3 || sort < -1 || sort > 2) {
            return f(0);
        }
        if (sort == -1) {
            sheets[s] = null;
            return 0;
        }
        if (n < 0) {
            return f(6);
        }
        if (n > 40) {
            return f(0);
        }
        sheets[s] = new long[n];
        sorts[s] = sort;
        return n;
    }

    private int noNumber(int s, int i) {
        if (s < 0 || s > 3) {
            return 0;
        }
        if (sheets[s] == null) {
            return 5;
        }
        return i < 0 || i >= sheets[s].length ? 0 : -1;
    }

    int write(int s, int i, long v) {
        int no = noNumber(s, i);
        if (no >= 0) {
            return f(no);
        }
        sheets[s][i] = sorts[s] == 0 ? (byte) v : sorts[s] == 1 ? (int) v : v;
        return 1;
    }

    long item(int s, int i) {
        int no = noNumber(s, i);
        return no >= 0 ? lf(no) : sheets[s][i];
    }

    int copy(int s, int i, int t, int j, int n) {
        if (s < 0 || s > 3 || t < 0 || t > 3) {
            return f(0);
        }
        if (sheets[s] == null || sheets[t] == null) {
            return f(5);
        }
        if (sorts[s] != sorts[t]) {
            return f(2);
        }
        if (i < 0 || j < 0 || n < 0 || n > sheets[s].length - (long) i
            || n > sheets[t].length - (long) j) {
            return f(0);
        }
        long[] were = sheets[s].clone();
        for (int at = 0; at < n; at++) {
            sheets[t][j + at] = were[i + at];
        }
        return n;
    }

    int undo() {
        if (kept.isEmpty()) {
            return f(3);
        }
        held = kept.remove(kept.size() - 1);
        netsKnown = null;
        return kept.size();
    }

    int seed(int v) {
        int was = z;
        z = v;
        return was;
    }

    private int marked(int v) {
        int many = 0;
        for (int mark : held.marks.values()) {
            many += mark == v ? 1 : 0;
        }
        return many;
    }

    int count(int what) {
        switch (what) {
            case 0: return n();
            case 1: return held.steps.size();
            case 2: return kept.size();
            case 3: return z;
            case 4: return rows.size();
            case 5: return marked(1);
            case 6: return marked(2);
            default: return f(0);
        }
    }

    int status(int which) {
        if (which < -1 || which > 7) {
            return f(0);
        }
        return which == -1 ? Arrays.stream(told).sum() : told[which];
    }
}
