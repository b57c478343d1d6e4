import java.util.ArrayList;
import java.util.Arrays;
import java.util.List;

/** The document once more, in another way: by Java's own floats and doubles, index by index. */
final class SpreadModel {
    private static final int BAD = -1, FULL = -2, NONE = -3;

    private static final class Failure extends RuntimeException {
        private static final long serialVersionUID = 1;
        final int answer;
        final int place;
        final boolean counts;

        Failure(int answer, int place, boolean counts) {
            super(null, null, false, false);
            this.answer = answer;
            this.place = place;
            this.counts = counts;
        }
    }

    private static final class T {
        int lane;
        int[] extents;
        long[] values;
        boolean gone;
    }

    private final List<T> all = new ArrayList<>();
    private int setting = 0;
    private int missing = 0;
    private int failures = 0;
    private int place = NONE;

    private static Failure fail(int which, int place) {
        return new Failure(-10 - which, place, true);
    }

    /** BAD, FULL, FAILURES come out of calls as exceptions here; this makes them answers. */
    private long told(Failure f) {
        if (f.counts) {
            failures++;
            place = f.place;
        }
        return f.answer;
    }

    private static void badUnless(boolean good) {
        if (!good) {
            throw new Failure(BAD, NONE, false);
        }
    }

    private void notFull() {
        if (all.size() == 16) {
            throw new Failure(FULL, NONE, false);
        }
    }

    private T get(int t) {
        badUnless(t >= 0 && t < all.size());
        return all.get(t);
    }

    private static void notGone(T... ts) {
        for (T t : ts) {
            if (t.gone) {
                throw fail(1, NONE);
            }
        }
    }

    private int add(int lane, int[] extents, long[] values) {
        T t = new T();
        t.lane = lane;
        t.extents = extents;
        t.values = values;
        all.add(t);
        return all.size() - 1;
    }

    private static int product(int[] extents) {
        int p = 1;
        for (int e : extents) {
            p *= e;
        }
        return p;
    }

    long call(String name, long... g) {
        try {
            return call2(name, g);
        } catch (Failure f) {
            return told(f);
        }
    }

    private long call2(String name, long[] g) {
        int a = g.length > 0 ? (int) g[0] : 0;
        int b = g.length > 1 ? (int) g[1] : 0;
        int c = g.length > 2 ? (int) g[2] : 0;
        int d = g.length > 3 ? (int) g[3] : 0;
        int e = g.length > 4 ? (int) g[4] : 0;
        switch (name) {
            case "tensor": {
                badUnless(a >= 0 && a <= 5);
                notFull();
                return add(a, new int[0], new long[1]);
            }
            case "shaped": return shaped(a, b, c, d);
            case "free": {
                T t = get(a);
                notGone(t);
                t.gone = true;
                return 1;
            }
            case "setting": {
                badUnless(a == 0 || a == 1);
                int old = setting;
                setting = a;
                return old;
            }
            case "item": {
                T t = get(a);
                notGone(t);
                if (b < 0 || b >= t.values.length) throw fail(2, NONE);
                t.values[b] = given(g[2], t.lane);
                return 1;
            }
            case "bits": {
                T t = get(a);
                badUnless(c >= 0 && c <= 5);
                notGone(t);
                if (t.lane != c) throw fail(4, NONE);
                if (b < 0 || b >= t.values.length) throw fail(2, NONE);
                return t.values[b];
            }
            case "index": {
                T t = get(a);
                notGone(t);
                int[] at = {b, c, d};
                int[] used = Arrays.copyOf(at, t.extents.length);
                for (int n = 0; n < used.length; n++) {
                    if (used[n] < 0 || used[n] >= t.extents[n]) throw fail(2, NONE);
                }
                return numberOf(t.extents, used);
            }
            case "of": {
                T t = get(a);
                badUnless(b >= 0 && b <= 5);
                notGone(t);
                if (b == 0) return t.lane;
                if (b == 1) return t.extents.length;
                if (b == 2) return t.values.length;
                return b - 3 < t.extents.length ? t.extents[b - 3] : NONE;
            }
            case "act": return act(a, b, c);
            case "into": return into(a, b, c, d);
            case "one": return one(a, b);
            case "cast": {
                T t = get(a);
                badUnless(b >= 0 && b <= 5);
                notFull();
                notGone(t);
                long[] v = new long[t.values.length];
                for (int n = 0; n < v.length; n++) v[n] = to(t.values[n], t.lane, b);
                return add(b, t.extents, v);
            }
            case "where": return where(a, b, c);
            case "copy": {
                T x = get(a);
                T y = get(c);
                notGone(x, y);
                if (x.lane != y.lane) throw fail(4, NONE);
                if (b < 0 || d < 0 || e < 0 || (long) b + e > x.values.length || (long) d + e > y.values.length) {
                    throw fail(2, NONE);
                }
                long[] part = Arrays.copyOfRange(x.values, b, b + e);
                for (int n = 0; n < e; n++) y.values[d + n] = part[n];
                return e;
            }
            case "same": {
                T x = get(a);
                T y = get(b);
                notGone(x, y);
                return x.lane == y.lane && Arrays.equals(x.extents, y.extents) && Arrays.equals(x.values, y.values) ? 1 : 0;
            }
            case "place": return place;
            case "count": {
                badUnless(a >= 0 && a <= 3);
                if (a == 0) return all.size();
                if (a == 1) return all.stream().filter(t -> !t.gone).count();
                return a == 2 ? missing : failures;
            }
            default: throw new IllegalArgumentException(name);
        }
    }

    private int shaped(int lane, int a, int b, int c) {
        badUnless(lane >= 0 && lane <= 5 && a <= 60 && b <= 60 && c <= 60 && !(b == NONE && c != NONE));
        notFull();
        int[] extents = b == NONE ? new int[] {a} : c == NONE ? new int[] {a, b} : new int[] {a, b, c};
        for (int e : extents) {
            if (e < 0) throw fail(3, NONE);
        }
        if (product(extents) > 240) throw fail(6, NONE);
        return add(lane, extents, new long[product(extents)]);
    }

    private static long given(long v, int lane) {
        switch (lane) {
            case 0: return v & 1;
            case 1: return (byte) v;
            case 2: return (int) v;
            case 3: return v;
            case 4: return Float.floatToIntBits(Float.intBitsToFloat((int) v));
            default: return Double.doubleToLongBits(Double.longBitsToDouble(v));
        }
    }

    private static float f(long v) {
        return Float.intBitsToFloat((int) v);
    }

    private static double d(long v) {
        return Double.longBitsToDouble(v);
    }

    private static long of(float v) {
        return Float.floatToIntBits(v);
    }

    private static long of(double v) {
        return Double.doubleToLongBits(v);
    }

    static long to(long v, int from, int lane) {
        if (from == lane) return v;
        if (lane == 0) return (from == 4 ? f(v) != 0 : from == 5 ? d(v) != 0 : v != 0) ? 1 : 0;
        if (from <= 3) {
            if (lane == 4) return of((float) v);
            if (lane == 5) return of((double) v);
            return given(v, lane);
        }
        double x = from == 4 ? f(v) : d(v);
        switch (lane) {
            case 1: return (byte) (int) x;
            case 2: return (int) x;
            case 3: return (long) x;
            case 4: return of((float) x);
            default: return of(x);
        }
    }

    private static int joined(int a, int b) {
        if (a > b) return joined(b, a);
        return b == 4 && (a == 2 || a == 3) ? 5 : b;
    }

    private static int[] padded(int[] extents, int rank) {
        int[] p = new int[rank];
        Arrays.fill(p, 1);
        System.arraycopy(extents, 0, p, rank - extents.length, extents.length);
        return p;
    }

    private static int[] spread(int[] a, int[] b) {
        int rank = Math.max(a.length, b.length);
        int[] x = padded(a, rank);
        int[] y = padded(b, rank);
        int[] both = new int[rank];
        for (int n = rank - 1; n >= 0; n--) {
            if (x[n] != 1 && y[n] != 1 && x[n] != y[n]) throw fail(6, rank - 1 - n);
            both[n] = x[n] == 1 ? y[n] : x[n];
        }
        return both;
    }

    private static int numberOf(int[] extents, int[] at) {
        int number = 0;
        for (int n = 0; n < extents.length; n++) number = number * extents[n] + at[n];
        return number;
    }

    private static long at(T t, int[] indices) {
        int skip = indices.length - t.extents.length;
        int[] own = new int[t.extents.length];
        for (int n = 0; n < own.length; n++) own[n] = t.extents[n] == 1 ? 0 : indices[skip + n];
        return t.values[numberOf(t.extents, own)];
    }

    /** The next indices in order, the last one running first. */
    private static void next(int[] at, int[] extents) {
        for (int n = at.length - 1; n >= 0; n--) {
            if (++at[n] < extents[n]) return;
            at[n] = 0;
        }
    }

    private static int workLane(int op, int joined) {
        if (joined >= 4) {
            if (op >= 12 && op <= 17) throw fail(4, NONE);
            return joined;
        }
        if (op == 3) return 5;
        boolean asInts = op <= 7 || op >= 15 && op <= 17 || op == 22;
        return joined == 0 && asInts ? 2 : joined;
    }

    private long[] results(int op, int lane, T x, T y, int[] extents) {
        long[] v = new long[product(extents)];
        int[] at = new int[extents.length];
        int missed = 0;
        for (int n = 0; n < v.length; n++) {
            long p = to(at(x, at), x.lane, lane);
            long q = to(at(y, at), y.lane, lane);
            if (lane <= 3 && op >= 4 && op <= 7 && q == 0) {
                if (setting == 0) throw fail(5, n);
                missed++;
            } else {
                v[n] = lane == 4 ? floats(op, f(p), f(q)) : lane == 5 ? doubles(op, d(p), d(q)) : wholes(op, lane, p, q);
            }
            next(at, extents);
        }
        missing += missed;
        return v;
    }

    private int act(int op, int a, int b) {
        badUnless(op >= 0 && op <= 22);
        T x = get(a);
        T y = get(b);
        notFull();
        notGone(x, y);
        int lane = workLane(op, joined(x.lane, y.lane));
        int[] extents = spread(x.extents, y.extents);
        if (product(extents) > 240) throw fail(6, NONE);
        return add(op >= 18 && op <= 21 ? 0 : lane, extents, results(op, lane, x, y, extents));
    }

    private int into(int op, int a, int b, int target) {
        badUnless(op >= 0 && op <= 22);
        T x = get(a);
        T y = get(b);
        T z = get(target);
        notGone(x, y, z);
        int lane = workLane(op, joined(x.lane, y.lane));
        int[] extents = spread(x.extents, y.extents);
        if (!Arrays.equals(extents, z.extents)) throw fail(6, NONE);
        int result = op >= 18 && op <= 21 ? 0 : lane;
        if (result > z.lane || z.lane == 4 && (result == 2 || result == 3)) throw fail(4, NONE);
        long[] v = results(op, lane, x, y, extents);
        for (int n = 0; n < v.length; n++) z.values[n] = to(v[n], result, z.lane);
        return 1;
    }

    private int where(int mask, int a, int b) {
        T m = get(mask);
        T x = get(a);
        T y = get(b);
        notFull();
        notGone(m, x, y);
        if (m.lane != 0) throw fail(4, NONE);
        int[] extents = spread(spread(x.extents, y.extents), m.extents);
        if (product(extents) > 240) throw fail(6, NONE);
        long[] v = new long[product(extents)];
        int[] at = new int[extents.length];
        int lane = joined(x.lane, y.lane);
        for (int n = 0; n < v.length; n++) {
            v[n] = at(m, at) == 1 ? to(at(x, at), x.lane, lane) : to(at(y, at), y.lane, lane);
            next(at, extents);
        }
        return add(lane, extents, v);
    }

    private int one(int op, int a) {
        badUnless(op >= 0 && op <= 8);
        T t = get(a);
        notFull();
        notGone(t);
        if (op == 7 && t.lane >= 4) throw fail(4, NONE);
        int lane = op <= 2 && t.lane == 0 ? 2 : t.lane;
        long[] v = new long[t.values.length];
        for (int n = 0; n < v.length; n++) {
            long x = to(t.values[n], t.lane, lane);
            v[n] = lane == 4 ? oneOfFloats(op, f(x)) : lane == 5 ? oneOfDoubles(op, d(x)) : oneOfWholes(op, lane, x);
        }
        return add(op == 8 ? 0 : lane, t.extents, v);
    }

    private static long oneOfWholes(int op, int lane, long x) {
        switch (op) {
            case 0: return given(-x, lane);
            case 1: return given(Math.abs(x), lane);
            case 2: return Long.signum(x);
            case 7: return given(~x, lane);
            case 8: return 0;
            default: return x;
        }
    }

    private static double cut(double x) {
        return x < 0 ? Math.ceil(x) : Math.floor(x);
    }

    private static long oneOfDoubles(int op, double x) {
        switch (op) {
            case 0: return of(-x);
            case 1: return of(Math.abs(x));
            case 2: return of(Math.signum(x));
            case 3: return of(Math.floor(x));
            case 4: return of(Math.ceil(x));
            case 5: return of(Math.rint(x));
            case 6: return of(cut(x));
            default: return x != x ? 1 : 0;
        }
    }

    private static long oneOfFloats(int op, float x) {
        switch (op) {
            case 0: return of(-x);
            case 1: return of(Math.abs(x));
            case 2: return of(Math.signum(x));
            case 3: return of((float) Math.floor(x));
            case 4: return of((float) Math.ceil(x));
            case 5: return of((float) Math.rint(x));
            case 6: return of((float) cut(x));
            default: return x != x ? 1 : 0;
        }
    }

    private static long wholes(int op, int lane, long x, long y) {
        switch (lane) {
            case 1: return bytes(op, (byte) x, (byte) y);
            case 3: return longs(op, x, y);
            default: return given(ints(op, (int) x, (int) y), lane);
        }
    }

    private static long bytes(int op, byte x, byte y) {
        switch (op) {
            case 15: return (byte) (x << (y & 7));
            case 16: return (byte) (x >> (y & 7));
            case 17: return (byte) (Byte.toUnsignedInt(x) >>> (y & 7));
            default: return (byte) ints(op, x, y);
        }
    }

    private static int ints(int op, int x, int y) {
        switch (op) {
            case 0: return x + y;
            case 1: return x - y;
            case 2: return x * y;
            case 4: return x / y;
            case 5: return Math.floorDiv(x, y);
            case 6: return x % y;
            case 7: return Math.floorMod(x, y);
            case 8: case 10: return Math.min(x, y);
            case 9: case 11: return Math.max(x, y);
            case 12: return x & y;
            case 13: return x | y;
            case 14: return x ^ y;
            case 15: return x << y;
            case 16: return x >> y;
            case 17: return x >>> y;
            case 18: return x < y ? 1 : 0;
            case 19: return x <= y ? 1 : 0;
            case 20: return x == y ? 1 : 0;
            case 21: return x != y ? 1 : 0;
            default: return y < 0 ? -Math.abs(x) : Math.abs(x);
        }
    }

    private static long longs(int op, long x, long y) {
        switch (op) {
            case 0: return x + y;
            case 1: return x - y;
            case 2: return x * y;
            case 4: return x / y;
            case 5: return Math.floorDiv(x, y);
            case 6: return x % y;
            case 7: return Math.floorMod(x, y);
            case 8: case 10: return Math.min(x, y);
            case 9: case 11: return Math.max(x, y);
            case 12: return x & y;
            case 13: return x | y;
            case 14: return x ^ y;
            case 15: return x << y;
            case 16: return x >> y;
            case 17: return x >>> y;
            case 18: return x < y ? 1 : 0;
            case 19: return x <= y ? 1 : 0;
            case 20: return x == y ? 1 : 0;
            case 21: return x != y ? 1 : 0;
            default: return y < 0 ? -Math.abs(x) : Math.abs(x);
        }
    }

    private static long doubles(int op, double x, double y) {
        double r = x % y;
        switch (op) {
            case 0: return of(x + y);
            case 1: return of(x - y);
            case 2: return of(x * y);
            case 3: return of(x / y);
            case 4: return of(cut(x / y));
            case 5: return of(Math.floor(x / y));
            case 6: return of(r);
            case 7: return of(r != 0 && (r < 0) != (y < 0) ? r + y : r);
            case 8: return of(Math.min(x, y));
            case 9: return of(Math.max(x, y));
            case 10: return of(x != x ? y : y != y ? x : Math.min(x, y));
            case 11: return of(x != x ? y : y != y ? x : Math.max(x, y));
            case 18: return x < y ? 1 : 0;
            case 19: return x <= y ? 1 : 0;
            case 20: return x == y ? 1 : 0;
            case 21: return x != y ? 1 : 0;
            default: return of(Math.copySign(x, y != y ? 1 : y));
        }
    }

    private static long floats(int op, float x, float y) {
        float r = x % y;
        switch (op) {
            case 0: return of(x + y);
            case 1: return of(x - y);
            case 2: return of(x * y);
            case 3: return of(x / y);
            case 4: return of((float) cut(x / y));
            case 5: return of((float) Math.floor(x / y));
            case 6: return of(r);
            case 7: return of(r != 0 && (r < 0) != (y < 0) ? r + y : r);
            case 8: return of(Math.min(x, y));
            case 9: return of(Math.max(x, y));
            case 10: return of(x != x ? y : y != y ? x : Math.min(x, y));
            case 11: return of(x != x ? y : y != y ? x : Math.max(x, y));
            case 18: return x < y ? 1 : 0;
            case 19: return x <= y ? 1 : 0;
            case 20: return x == y ? 1 : 0;
            case 21: return x != y ? 1 : 0;
            default: return of(Math.copySign(x, y != y ? 1 : y));
        }
    }
}
