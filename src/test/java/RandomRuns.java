import java.util.Arrays;
import java.util.Random;

/** Many runs of calls, each answer held against the model's; the seeds are fixed, so that runs are alike. */
public final class RandomRuns {
    private static final long[] EDGES = {
        0, 1, -1, 2, -2, 3, 7, -7, 10, 100, 127, 128, -128, -129, 255, 31, 32, 33, 63, 64, 65,
        Integer.MAX_VALUE, Integer.MIN_VALUE, Integer.MAX_VALUE + 1L, Integer.MIN_VALUE - 1L,
        Long.MAX_VALUE, Long.MIN_VALUE, Long.MAX_VALUE - 1, Long.MIN_VALUE + 1,
        (1L << 24) + 1, (1L << 24) + 3, (1L << 53) + 1, (1L << 53) + 3, (1L << 62) + (1L << 38), (1L << 62) + (1L << 38) + 1,
        0x7fffff4000000000L, 0x7fffff3fffffffffL, 0x7ffffffffffffdffL, 0x7ffffffffffffe00L,
    };
    private static final double[] DOUBLES = {
        0.0, -0.0, 1, -1, 0.5, -0.5, 1.5, -1.5, 2.5, -2.5, 0.49999999999999994, -0.49999999999999994, 3, -3, 0.1, -0.1, 1e-20, 1e20,
        1e300, -1e300, 1e-300, 1e-308, -1e-310, Double.MIN_VALUE, -Double.MIN_VALUE, Double.MIN_NORMAL, Double.MAX_VALUE,
        Double.POSITIVE_INFINITY, Double.NEGATIVE_INFINITY, Double.NaN, 4503599627370495.5, 4503599627370496.5, -4503599627370497.5,
        9007199254740993.0, 127.9, 128, -129.5, 300, 2147483647, 2147483648.0, -2147483648.9, -2147483649.0, 9.223372036854775807e18,
        -9.223372036854775808e18, -9.3e18, 3.4028234663852886e38, 3.4028235677973366e38, 3.4028235677973362e38, 1.401298464324817e-45,
        7.006492321624085e-46, 7.006492321624087e-46, 2.1019476964872256e-45, 1.1754943508222875e-38, 1.1754942807573643e-38,
        1.0000000596046448, 1.0000000596046446, 1.000000178813934, 8388607.5, 8388608.5, 16777217,
    };
    private static final float[] FLOATS = {
        0f, -0f, 1f, -1f, 0.5f, -0.5f, 1.5f, -2.5f, 3f, -3f, 0.1f, 0.49999997f, -0.49999997f, 8388607.5f, 8388609f, 16777216f, 1e30f, -1e30f, 1e-30f,
        1e-40f, -1e-44f, Float.MIN_VALUE, -Float.MIN_VALUE, Float.MIN_NORMAL, Float.MAX_VALUE, -Float.MAX_VALUE,
        Float.POSITIVE_INFINITY, Float.NEGATIVE_INFINITY, Float.NaN, 2147483648f, -2147483648f, 9.223372e18f, 200f, -129f,
    };
    private static final int[] EXTENTS = {0, 1, 1, 1, 2, 2, 3, 3, 4, 5, 12, 60};

    private final Random random;
    private final SpreadRules program = new SpreadRules();
    private final SpreadModel model = new SpreadModel();
    private final int seed;
    private final int[] lanes = new int[16];

    private RandomRuns(int seed) {
        this.seed = seed;
        this.random = new Random(seed);
    }

    public static void main(String[] args) {
        for (int seed = 0; seed < 3000; seed++) {
            new RandomRuns(seed).run();
        }
        Due.end();
    }

    private int below(int n) {
        return random.nextInt(n);
    }

    /** Mostly a number of what there is, now and then one of what there is not. */
    private int number(int least, int beyond) {
        if (below(60) == 0) {
            int[] wrong = {-1, beyond, beyond + 1, -4, Integer.MAX_VALUE, Integer.MIN_VALUE};
            return wrong[below(wrong.length)];
        }
        return beyond <= least ? least : least + below(beyond - least);
    }

    private int made() {
        return program.count(0);
    }

    private int tensorNumber() {
        return number(0, made());
    }

    private int extent() {
        int[] wrong = {-1, -2, -3, -4, 61, 60, 1000, Integer.MIN_VALUE, Integer.MAX_VALUE};
        return below(80) == 0 ? wrong[below(wrong.length)] : EXTENTS[below(EXTENTS.length)];
    }

    private long value(int lane) {
        int kind = below(4);
        if (kind == 0) {
            return random.nextLong();
        }
        if (lane == 4) {
            // What stands above the 32 lowest bits does not count.
            long above = below(2) == 0 ? 0 : random.nextLong() << 32;
            return kind == 1 ? above | Float.floatToRawIntBits(near()) & 0xffffffffL : above ^ Float.floatToIntBits(FLOATS[below(FLOATS.length)]);
        }
        if (lane == 5) {
            return kind == 1 ? Double.doubleToRawLongBits(near()) : Double.doubleToRawLongBits(DOUBLES[below(DOUBLES.length)]);
        }
        return kind == 1 ? below(40) - 20 : EDGES[below(EDGES.length)];
    }

    /** A small number in halves and the like: quotients, rests and ties come out of these. */
    private float near() {
        return (below(64) - 32) / (float) (1 << below(4));
    }

    private void run() {
        int calls = 100 + below(300);
        for (int n = 0; n < calls; n++) {
            String name = NAMES[below(made() < 3 ? 4 : NAMES.length)];
            if (name.equals("free") && below(6) != 0 || made() > 12 && MAKING.contains(name) && below(8) != 0) {
                name = "into";
            }
            step(name);
        }
        for (int t = 0; t < made(); t++) {
            readAll(t);
        }
        for (int what = 0; what < 4; what++) {
            ask("count", what);
        }
        ask("place");
    }

    private static final String MAKING = " tensor shaped act one cast where ";
    private static final String[] NAMES = {
        "shaped", "tensor", "shaped", "fill", "fill", "item", "free", "setting", "bits", "index", "of", "act", "act", "act", "into",
        "into", "into", "into", "one", "one", "cast", "cast", "where", "where", "copy", "same", "place", "count", "fill", "fill", "readAll",
    };

    private void step(String name) {
        int t = tensorNumber();
        int u = tensorNumber();
        switch (name) {
            case "tensor": ask(name, number(0, 6)); break;
            case "shaped": shape(); break;
            case "fill": fill(t); break;
            case "free": ask(name, t); break;
            case "setting": ask(name, number(0, 2)); break;
            case "item": ask(name, t, number(0, 12), value(below(6))); break;
            case "bits": ask(name, t, number(0, 6), below(3) == 0 ? number(0, 6) : laneOf(t)); break;
            case "index": ask(name, t, number(0, 3), number(0, 3), number(0, 3)); break;
            case "of": ask(name, t, number(0, 6)); break;
            case "act": ask(name, number(0, 23), t, u); break;
            case "into": ask(name, number(0, 23), t, u, below(2) == 0 ? t : tensorNumber()); break;
            case "one": ask(name, number(0, 9), t); break;
            case "cast": ask(name, t, number(0, 6)); break;
            case "where": ask(name, truths(), t, u); break;
            case "copy": ask(name, t, number(0, 4), below(2) == 0 ? t : u, number(0, 4), number(0, 5)); break;
            case "same": ask(name, t, u); break;
            case "place": ask(name); break;
            case "count": ask(name, number(0, 4)); break;
            default: readAll(t);
        }
    }

    private int laneOf(int t) {
        return t >= 0 && t < made() ? lanes[t] : 0;
    }

    private int truths() {
        for (int tries = 0; tries < 8; tries++) {
            int t = tensorNumber();
            if (laneOf(t) == 0) {
                return t;
            }
        }
        return tensorNumber();
    }

    private void shape() {
        int rank = 1 + below(3);
        ask("shaped", number(0, 6), extent(), rank < 2 ? -3 : extent(), rank < 3 ? -3 : extent());
    }

    private void fill(int t) {
        for (int n = 0; n < 20; n++) {
            ask("item", t, n, value(laneOf(t)));
        }
    }

    private void readAll(int t) {
        for (int n = 0; n <= 240; n++) {
            ask("bits", t, n, laneOf(t));
        }
    }

    private void ask(String name, long... g) {
        long want = model.call(name, g);
        long got = answer(name, g);
        if (MAKING.contains(" " + name + " ") && want >= 0) {
            for (int lane = 0; lane < 6; lane++) {
                if (model.call("of", want, 0) == lane) {
                    lanes[(int) want] = lane;
                }
            }
        }
        Due.is("seed " + seed + ": " + name + Arrays.toString(g), got, want);
    }

    private long answer(String name, long[] g) {
        int[] p = new int[g.length];
        for (int n = 0; n < g.length; n++) {
            p[n] = (int) g[n];
        }
        switch (name) {
            case "tensor": return program.tensor(p[0]);
            case "shaped": return program.shaped(p[0], p[1], p[2], p[3]);
            case "free": return program.free(p[0]);
            case "setting": return program.setting(p[0]);
            case "item": return program.item(p[0], p[1], g[2]);
            case "bits": return program.bits(p[0], p[1], p[2]);
            case "index": return program.index(p[0], p[1], p[2], p[3]);
            case "of": return program.of(p[0], p[1]);
            case "act": return program.act(p[0], p[1], p[2]);
            case "into": return program.into(p[0], p[1], p[2], p[3]);
            case "one": return program.one(p[0], p[1]);
            case "cast": return program.cast(p[0], p[1]);
            case "where": return program.where(p[0], p[1], p[2]);
            case "copy": return program.copy(p[0], p[1], p[2], p[3], p[4]);
            case "same": return program.same(p[0], p[1]);
            case "place": return program.place();
            default: return program.count(p[0]);
        }
    }
}
