import java.util.Random;

/** Every ACT, OF ONE and cast on many pairs of VALUES, near the edges of rounding, against Java's own arithmetic. */
public final class ArithmeticSweep {
    private static final int ITEMS = 60;
    private static final Random RANDOM = new Random(20261116);

    private ArithmeticSweep() {
    }

    public static void main(String[] args) {
        for (int round = 0; round < 1500; round++) {
            for (int lane = 0; lane < 6; lane++) {
                sweepActs(lane, round);
                sweepOfOne(lane);
            }
        }
        Due.end();
    }

    private static void sweepActs(int lane, int round) {
        Both both = new Both();
        both.call("shaped", lane, ITEMS, -3, -3);
        both.call("shaped", round % 3 == 0 ? RANDOM.nextInt(6) : lane, ITEMS, -3, -3);
        both.fill(0);
        both.fill(1);
        both.call("setting", 1);
        for (int op = 0; op <= 13; op++) {
            both.call("act", op, 0, 1);
        }
        both.readAll();
        Both rest = new Both();
        rest.takeOver(both);
        for (int op = 14; op <= 22; op++) {
            rest.call("act", op, 0, 1);
        }
        rest.readAll();
    }

    private static void sweepOfOne(int lane) {
        Both both = new Both();
        both.call("shaped", lane, ITEMS, -3, -3);
        both.fill(0);
        for (int op = 0; op <= 8; op++) {
            both.call("one", op, 0);
        }
        for (int to = 0; to < 6; to++) {
            both.call("cast", 0, to);
        }
        both.readAll();
    }

    /** The program and the model side by side. */
    private static final class Both {
        private final SpreadRules program = new SpreadRules();
        private final SpreadModel model = new SpreadModel();

        void call(String name, long... g) {
            int a = (int) g[0];
            int b = g.length > 1 ? (int) g[1] : 0;
            int c = g.length > 2 ? (int) g[2] : 0;
            long got;
            switch (name) {
                case "shaped": got = program.shaped(a, b, c, (int) g[3]); break;
                case "setting": got = program.setting(a); break;
                case "item": got = program.item(a, b, g[2]); break;
                case "act": got = program.act(a, b, c); break;
                case "one": got = program.one(a, b); break;
                default: got = program.cast(a, b);
            }
            Due.is(name + java.util.Arrays.toString(g), got, model.call(name, g));
        }

        void fill(int t) {
            int lane = program.of(t, 0);
            for (int n = 0; n < ITEMS; n++) {
                // The other one has its bits already: numbers near one another cancel, and divide to near 1.
                long other = t == 1 && program.of(0, 0) == lane ? program.bits(0, n, lane) : some(lane);
                call("item", t, n, RANDOM.nextInt(4) == 0 ? other + RANDOM.nextInt(7) - 3 : some(lane));
            }
        }

        void takeOver(Both from) {
            for (int t = 0; t < 2; t++) {
                int lane = from.program.of(t, 0);
                call("shaped", lane, ITEMS, -3, -3);
                for (int n = 0; n < ITEMS; n++) {
                    call("item", t, n, from.program.bits(t, n, lane));
                }
            }
        }

        void readAll() {
            for (int t = 0; t < program.count(0); t++) {
                int lane = program.of(t, 0);
                for (int n = 0; n < ITEMS; n++) {
                    Due.is("ITEM " + n + " of TENSOR " + t + " of LANE " + lane, program.bits(t, n, lane), model.call("bits", t, n, lane));
                }
            }
            Due.is("MISSING", program.count(2), model.call("count", 2));
        }
    }

    private static long some(int lane) {
        if (lane < 4) {
            return RANDOM.nextLong() >> RANDOM.nextInt(64);
        }
        int fractionBits = lane == 4 ? 23 : 52;
        int exponents = lane == 4 ? 256 : 2048;
        long sign = RANDOM.nextInt(2);
        return (sign << 11 + (lane == 4 ? -3 : 0) | exponent(exponents)) << fractionBits | fraction(fractionBits);
    }

    /** Half of them near 1, the rest anywhere, with many at both ends. */
    private static long exponent(int exponents) {
        switch (RANDOM.nextInt(8)) {
            case 0: return RANDOM.nextInt(3);
            case 1: return exponents - 1 - RANDOM.nextInt(3);
            case 2: return RANDOM.nextInt(exponents);
            case 3: return exponents / 4 + RANDOM.nextInt(40) - 20;
            default: return exponents / 2 - 4 + RANDOM.nextInt(70);
        }
    }

    /** Few bits at the top, at the end, or anything: ties and carries come from the first two. */
    private static long fraction(int bits) {
        long all = (1L << bits) - 1;
        switch (RANDOM.nextInt(5)) {
            case 0: return 0;
            case 1: return (RANDOM.nextLong() << bits - 3) & all;
            case 2: return all - RANDOM.nextInt(4);
            case 3: return RANDOM.nextInt(4) | (RANDOM.nextLong() << bits - 2) & all;
            default: return RANDOM.nextLong() & all;
        }
    }
}
