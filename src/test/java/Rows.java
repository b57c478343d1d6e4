/** What the tests by hand have in common: the document's numbers, and rows of VALUES in and out. */
abstract class Rows {
    static final int TRUTHS = 0, BYTES = 1, INTS = 2, LONGS = 3, FLOATS = 4, DOUBLES = 5;
    static final int BAD = -1, FULL = -2, NONE = -3;
    static final int GONE = -11, NO_ITEM = -12, BELOW_ZERO = -13, OTHER_LANE = -14, BY_ZERO = -15, OTHER_EXTENTS = -16;
    static final int MIN = Integer.MIN_VALUE, MAX = Integer.MAX_VALUE;
    static final double INFINITE = Double.POSITIVE_INFINITY, NO_NUMBER = Double.NaN;

    /** Of whole LANES, by LANE: the least and the greatest number. */
    static final long[] LEAST = {0, Byte.MIN_VALUE, MIN, Long.MIN_VALUE};
    static final long[] GREATEST = {1, Byte.MAX_VALUE, MAX, Long.MAX_VALUE};

    static void due(String what, long got, long want) {
        Due.is(what, got, want);
    }

    static long d(double v) {
        return Double.doubleToLongBits(v);
    }

    static long f(double v) {
        return Float.floatToIntBits((float) v);
    }

    /** A number as it is told in a LANE. */
    static long told(int lane, double v) {
        return lane == FLOATS ? f(v) : lane == DOUBLES ? d(v) : (long) v;
    }

    /** A TENSOR of one EXTENT with VALUES. */
    static int row(SpreadRules x, int lane, long... values) {
        int t = x.shaped(lane, values.length, NONE, NONE);
        for (int n = 0; n < values.length; n++) {
            x.item(t, n, values[n]);
        }
        return t;
    }

    static int doubles(SpreadRules x, double... values) {
        return row(x, DOUBLES, allTold(DOUBLES, values));
    }

    static int floats(SpreadRules x, double... values) {
        return row(x, FLOATS, allTold(FLOATS, values));
    }

    static long[] allTold(int lane, double... values) {
        long[] all = new long[values.length];
        for (int n = 0; n < all.length; n++) {
            all[n] = told(lane, values[n]);
        }
        return all;
    }

    static void dueRow(String what, SpreadRules x, int t, int lane, long... values) {
        due(what + ", LANE", x.of(t, 0), lane);
        due(what + ", ITEMS", x.of(t, 2), values.length);
        for (int n = 0; n < values.length; n++) {
            due(what + ", ITEM " + n, x.bits(t, n, lane), values[n]);
        }
    }

    static void dueDoubles(String what, SpreadRules x, int t, double... values) {
        dueRow(what, x, t, DOUBLES, allTold(DOUBLES, values));
    }

    static void dueFloats(String what, SpreadRules x, int t, double... values) {
        dueRow(what, x, t, FLOATS, allTold(FLOATS, values));
    }

    /** EXTENTS from the first one on. */
    static void dueExtents(String what, SpreadRules x, int t, int... extents) {
        due(what + ", how many EXTENTS", x.of(t, 1), extents.length);
        int items = 1;
        for (int n = 0; n < 3; n++) {
            due(what + ", EXTENT " + n, x.of(t, 3 + n), n < extents.length ? extents[n] : NONE);
            items *= n < extents.length ? extents[n] : 1;
        }
        due(what + ", how many ITEMS", x.of(t, 2), items);
    }

    /** A TENSOR with these EXTENTS, whatever their number. */
    static int extents(SpreadRules x, int lane, int... e) {
        return e.length == 0 ? x.tensor(lane) : x.shaped(lane, e[0], e.length > 1 ? e[1] : NONE, e.length > 2 ? e[2] : NONE);
    }

    /** 16 TENSORS without EXTENTS: TENSOR 0 of TRUTHS, the others of INTS. */
    static SpreadRules full() {
        SpreadRules x = new SpreadRules();
        for (int t = 0; t < 16; t++) {
            due("tensor " + t, x.tensor(t == 0 ? TRUTHS : INTS), t);
        }
        return x;
    }

    /** A FAILURE with its PLACE; it counts as one. */
    static void dueFailure(String what, SpreadRules x, int before, long got, long want, int place) {
        due(what, got, want);
        due(what + ", PLACE", x.place(), place);
        due(what + ", FAILURES", x.count(3), before + 1);
    }
}
