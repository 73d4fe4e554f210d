import java.util.ArrayList;
import java.util.List;
import java.util.function.Supplier;
import java.util.function.ToLongFunction;

/**
 * Two objects made alike, one of which is asked one call more: all that can be seen of them is told
 * and compared, so that a call that changes what it may not is found out, whatever that is.
 */
final class Twins {
    private final Due due;

    Twins(Due due) {
        this.due = due;
    }

    /** The call answers the finding, and nothing else but how often it was told has changed. */
    void refuse(String name, Supplier<MarkedSweeps> made, ToLongFunction<MarkedSweeps> call,
            long finding) {
        MarkedSweeps asked = made.get();
        MarkedSweeps other = made.get();
        due.is(name, call.applyAsLong(asked), finding);
        long k = (finding < Due.OVER ? Due.LONG_BEYOND : Due.BEYOND) - finding;
        for (int which = 0; which < 8; which++) {
            due.is(name + ", then status(" + which + ")", asked.status(which),
                other.status(which) + (which == k ? 1 : 0));
        }
        due.is(name + ", then status(-1)", asked.status(-1), other.status(-1) + 1);
        alike(name, asked, other);
    }

    /** The call answers what is wanted, no finding, and nothing at all has changed. */
    void answer(String name, Supplier<MarkedSweeps> made, ToLongFunction<MarkedSweeps> call,
            long want) {
        MarkedSweeps asked = made.get();
        MarkedSweeps other = made.get();
        due.is(name, call.applyAsLong(asked), want);
        due.is(name + ", then status(-1)", asked.status(-1), other.status(-1));
        alike(name, asked, other);
    }

    /** All that can be seen of both is the same; both are used up by that. */
    void alike(String name, MarkedSweeps asked, MarkedSweeps other) {
        List<String> got = all(asked);
        List<String> want = all(other);
        for (int i = 0; i < Math.max(got.size(), want.size()); i++) {
            String g = i < got.size() ? got.get(i) : "nothing";
            String w = i < want.size() ? want.get(i) : "nothing";
            if (!g.equals(w)) {
                due.same(name + ", then", g, w);
                return;
            }
        }
    }

    private static List<String> all(MarkedSweeps x) {
        List<String> told = new ArrayList<>();
        for (int what = 2; what < 5; what++) {
            told.add("count(" + what + ") " + x.count(what));
        }
        told.add(board(x));
        told.add(nets(x));
        told.add(rows(x));
        told.add(sheets(x));
        told.add("draw() " + x.draw());
        for (int left = x.count(2); left > 0; left--) {
            told.add("undo() " + x.undo() + " " + x.count(0) + " " + x.count(1) + " "
                + x.count(5) + " " + x.count(6));
        }
        told.add(board(x));
        return told;
    }

    /** POINTS, MARKS, STEPS: all that a CHANGE changes. */
    static String board(MarkedSweeps x) {
        StringBuilder told = new StringBuilder("POINTS");
        int points = x.count(0);
        for (int i = 0; i < points; i++) {
            told.append(' ').append(x.at(i, 0)).append(',').append(x.at(i, 1));
        }
        told.append(" MARKS");
        for (int i = 0; i < points; i++) {
            for (int j = i + 1; j < points; j++) {
                told.append(' ').append(x.markOf(i, j));
            }
        }
        told.append(" (").append(x.count(5)).append(", ").append(x.count(6)).append(") STEPS");
        int steps = x.count(1);
        for (int i = 0; i < steps; i++) {
            told.append(' ').append(x.stepOf(i, 0)).append(',').append(x.stepOf(i, 1));
        }
        return told.toString();
    }

    private static String nets(MarkedSweeps x) {
        StringBuilder told = new StringBuilder("NETS " + x.nets() + " " + x.ways() + " HULL");
        int hull = x.hull(-1);
        for (int k = 0; k < hull; k++) {
            told.append(' ').append(x.hull(k));
        }
        if (x.nets() > 0) {
            told.append(' ').append(x.net(0)).append(' ').append(x.always(0));
            told.append(' ').append(x.always(1)).append(' ').append(x.path(0, 1));
        }
        return told.toString();
    }

    private static String rows(MarkedSweeps x) {
        StringBuilder told = new StringBuilder("ROWS");
        int rows = x.count(4);
        for (int i = 0; i < rows; i++) {
            told.append(' ').append(x.row(i, 0)).append(',').append(x.row(i, 1));
        }
        return told.toString();
    }

    /** Each up to the first number that it lacks, and whether it is MISSING or ends there. */
    static String sheets(MarkedSweeps x) {
        StringBuilder told = new StringBuilder();
        for (int s = 0; s < 4; s++) {
            told.append("SHEET");
            long before = x.status(-1);
            boolean going = true;
            for (int i = 0; going; i++) {
                told.append(' ').append(x.item(s, i));
                going = x.status(-1) == before;
            }
            told.append(sortOf(x, s)).append(' ');
        }
        return told.toString();
    }

    /** By what is left of a number that is too great for bytes and for ints. */
    private static String sortOf(MarkedSweeps x, int s) {
        long great = 1L << 40 | 1L << 20 | 1;
        long before = x.status(-1);
        long first = x.item(s, 0);
        if (x.status(-1) != before) {
            return "";
        }
        x.write(s, 0, great);
        long left = x.item(s, 0);
        x.write(s, 0, first);
        return left == 1 ? " bytes" : left == great ? " longs" : " ints";
    }
}
