/** One method a promise: ordinary inputs, the edges that the document names, and wrong inputs, worked out by hand. */
public final class PromiseTests extends Rows {
    private PromiseTests() {
    }

    public static void main(String[] args) {
        promise1();
        promise2();
        promise3();
        promise4();
        promise5();
        promise6();
        promise7();
        promise8();
        promise9();
        promise10Lanes();
        promise10Spread();
        promise10Wholes();
        promise10Reals();
        promise10Order();
        promise11();
        promise11Order();
        promise12();
        promise13();
        promise14();
        promise15();
        promise16();
        promise17();
        promise18();
        Due.end();
    }

    /** An ACT of whole VALUES of one LANE, all in one row. */
    private static void dueWhole(int op, int lane, long a, long b, int resultLane, long result) {
        SpreadRules x = new SpreadRules();
        dueRow("act " + op + " of LANE " + lane + ": " + a + ", " + b, x, x.act(op, row(x, lane, a), row(x, lane, b)), resultLane, result);
    }

    private static void dueDouble(int op, double a, double b, double result) {
        SpreadRules x = new SpreadRules();
        dueDoubles("act " + op + " of " + a + ", " + b, x, x.act(op, doubles(x, a), doubles(x, b)), result);
    }

    private static void dueFloat(int op, double a, double b, double result) {
        SpreadRules x = new SpreadRules();
        dueFloats("act " + op + " of floats " + a + ", " + b, x, x.act(op, floats(x, a), floats(x, b)), result);
    }

    private static void dueCompared(int op, double a, double b, int result) {
        SpreadRules x = new SpreadRules();
        dueRow("act " + op + " of " + a + ", " + b, x, x.act(op, doubles(x, a), doubles(x, b)), TRUTHS, result);
        dueRow("act " + op + " of floats " + a + ", " + b, x, x.act(op, floats(x, a), floats(x, b)), TRUTHS, result);
    }

    private static void promise1() {
        SpreadRules x = new SpreadRules();
        for (int what = 0; what <= 3; what++) {
            due("new: count " + what, x.count(what), 0);
        }
        due("new: place", x.place(), NONE);
        due("new: no TENSOR", x.of(0, 0), BAD);
        due("new: setting", x.setting(0), 0);
        due("BAD", SpreadRules.BAD, -1);
        due("FULL", SpreadRules.FULL, -2);
        due("NONE", SpreadRules.NONE, -3);
        SpreadRules y = new SpreadRules();
        y.tensor(INTS);
        due("objects stand apart", x.count(0), 0);
    }

    private static void promise2() {
        SpreadRules x = new SpreadRules();
        for (int lane = 0; lane < 6; lane++) {
            due("tensor", x.tensor(lane), lane);
            due("tensor: LANE", x.of(lane, 0), lane);
            due("tensor: EXTENTS", x.of(lane, 1), 0);
            due("tensor: ITEMS", x.of(lane, 2), 1);
            due("tensor: ITEM", x.bits(lane, 0, lane), 0);
        }
        due("tensor below", x.tensor(-1), BAD);
        due("tensor above", x.tensor(6), BAD);
        due("tensor least", x.tensor(MIN), BAD);
        due("tensor: no FAILURE", x.count(3), 0);
        x = full();
        due("tensor: the 17th", x.tensor(INTS), FULL);
        due("tensor: BAD ahead of FULL", x.tensor(6), BAD);
        x.free(3);
        due("tensor: a GONE one keeps its number", x.tensor(INTS), FULL);
        due("tensor: how many", x.count(0), 16);
    }

    private static void promise3() {
        SpreadRules x = new SpreadRules();
        due("shaped 1", x.shaped(INTS, 60, NONE, NONE), 0);
        due("shaped 2", x.shaped(BYTES, 4, 60, NONE), 1);
        due("shaped 3", x.shaped(DOUBLES, 4, 6, 10), 2);
        due("shaped 3: EXTENTS", x.of(2, 1), 3);
        due("shaped 3: ITEMS", x.of(2, 2), 240);
        for (int n = 0; n < 240; n++) {
            due("shaped 3: ITEM", x.bits(2, n, DOUBLES), 0);
        }
        due("shaped without ITEMS", x.shaped(INTS, 60, 60, 0), 3);
        due("shaped without ITEMS: how many", x.of(3, 2), 0);
        due("shaped 0", x.shaped(INTS, 0, NONE, NONE), 4);
        due("shaped above 240", x.shaped(INTS, 4, 61, NONE), BAD);
        due("shaped above 240", x.shaped(INTS, 241, NONE, NONE), BAD);
        due("shaped: 245 ITEMS", x.shaped(INTS, 7, 7, 5), OTHER_EXTENTS);
        due("shaped: PLACE", x.place(), NONE);
        due("shaped: lane", x.shaped(6, 1, 1, 1), BAD);
        due("shaped: a above", x.shaped(INTS, 61, -1, -1), BAD);
        due("shaped: b above", x.shaped(INTS, -1, MAX, 1), BAD);
        due("shaped: c above", x.shaped(INTS, -1, 1, 61), BAD);
        due("shaped: b NONE, c not", x.shaped(INTS, 1, NONE, 1), BAD);
        due("shaped: b NONE, c below", x.shaped(INTS, -1, NONE, -1), BAD);
        due("shaped: a below", x.shaped(INTS, -1, NONE, NONE), BELOW_ZERO);
        due("shaped: a cannot be left out", x.shaped(INTS, NONE, NONE, NONE), BELOW_ZERO);
        due("shaped: b below", x.shaped(INTS, 1, -2, NONE), BELOW_ZERO);
        due("shaped: c below", x.shaped(INTS, 60, 60, -4), BELOW_ZERO);
        due("shaped: least", x.shaped(INTS, MIN, MIN, MIN), BELOW_ZERO);
        due("shaped: FAILURES", x.count(3), 6);
        due("shaped: what FAILS makes none", x.count(0), 5);
        x = full();
        due("shaped: FULL ahead of FAILURES", x.shaped(INTS, -1, NONE, NONE), FULL);
        due("shaped: BAD ahead of FULL", x.shaped(INTS, 61, NONE, NONE), BAD);
    }

    private static void promise4() {
        SpreadRules x = new SpreadRules();
        x.tensor(INTS);
        x.tensor(INTS);
        due("free", x.free(0), 1);
        due("free again", x.free(0), GONE);
        due("free none", x.free(2), BAD);
        due("free below", x.free(-1), BAD);
        due("free: others stay", x.bits(1, 0, INTS), 0);
        due("free: item", x.item(0, 0, 1), GONE);
        due("free: count", x.count(0), 2);
        due("free: not GONE", x.count(1), 1);
        due("free: next number", x.tensor(INTS), 2);
    }

    private static void promise5() {
        SpreadRules x = new SpreadRules();
        due("setting", x.setting(1), 0);
        due("setting", x.setting(1), 1);
        due("setting 2", x.setting(2), BAD);
        due("setting -1", x.setting(-1), BAD);
        due("setting: BAD changes nothing", x.setting(0), 1);
        due("setting", x.setting(0), 0);
    }

    private static void promise6() {
        SpreadRules x = new SpreadRules();
        long v = 0x123456789abcdef3L;
        long[] told = {1, (byte) 0xf3, (int) 0x9abcdef3L, v, (int) 0x9abcdef3L, v};
        for (int lane = 0; lane < 6; lane++) {
            x.tensor(lane);
            due("item", x.item(lane, 0, v), 1);
            due("item: lowest bits", x.bits(lane, 0, lane), told[lane]);
        }
        x.item(TRUTHS, 0, 2);
        due("item: TRUTHS by the lowest bit", x.bits(TRUTHS, 0, TRUTHS), 0);
        long[] noFloats = {0x7f800001L, 0xffc00000L, 0x1ffffffffL, 0x12345678ff800001L, -1};
        for (long no : noFloats) {
            x.item(FLOATS, 0, no);
            due("item: no FLOAT number", x.bits(FLOATS, 0, FLOATS), 0x7fc00000L);
        }
        long[] noDoubles = {0x7ff0000000000001L, 0xfff8000000000000L, -1, 0xfff0000000000001L};
        for (long no : noDoubles) {
            x.item(DOUBLES, 0, no);
            due("item: no DOUBLE number", x.bits(DOUBLES, 0, DOUBLES), 0x7ff8000000000000L);
        }
        x.item(FLOATS, 0, 0xff800000L);
        due("item: infinite FLOAT", x.bits(FLOATS, 0, FLOATS), (int) 0xff800000L);
        x.item(DOUBLES, 0, 0xfff0000000000000L);
        due("item: infinite DOUBLE", x.bits(DOUBLES, 0, DOUBLES), 0xfff0000000000000L);
        due("item: above", x.item(INTS, 1, 0), NO_ITEM);
        due("item: below", x.item(INTS, -1, 0), NO_ITEM);
        due("item: no TENSOR", x.item(6, 0, 0), BAD);
        due("item: no TENSOR", x.item(-1, 0, 0), BAD);
        x.free(INTS);
        due("item: GONE ahead of no ITEM", x.item(INTS, 9, 0), GONE);
        int none = x.shaped(INTS, 0, NONE, NONE);
        due("item: where there are none", x.item(none, 0, 1), NO_ITEM);
    }

    private static void promise7() {
        SpreadRules x = new SpreadRules();
        row(x, BYTES, 5, GONE, NO_ITEM);
        due("bits", x.bits(0, 0, BYTES), 5);
        due("bits: a VALUE like a FAILURE", x.bits(0, 1, BYTES), GONE);
        due("bits: no FAILURE", x.count(3), 0);
        due("bits: above", x.bits(0, 3, BYTES), NO_ITEM);
        due("bits: below", x.bits(0, -1, BYTES), NO_ITEM);
        due("bits: most", x.bits(0, MAX, BYTES), NO_ITEM);
        due("bits: LANE ahead of ITEM", x.bits(0, 3, INTS), OTHER_LANE);
        due("bits: no LANE", x.bits(0, 3, 6), BAD);
        due("bits: no LANE", x.bits(0, 3, -1), BAD);
        due("bits: no TENSOR", x.bits(1, 0, BYTES), BAD);
        x.free(0);
        due("bits: GONE ahead of LANE", x.bits(0, 0, INTS), GONE);
        due("bits: BAD ahead of GONE", x.bits(0, 0, 6), BAD);
    }

    private static void promise8() {
        SpreadRules x = new SpreadRules();
        x.shaped(INTS, 2, 3, 4);
        int n = 0;
        for (int i = 0; i < 2; i++) {
            for (int j = 0; j < 3; j++) {
                for (int k = 0; k < 4; k++) {
                    due("index", x.index(0, i, j, k), n++);
                }
            }
        }
        due("index: i", x.index(0, 2, 0, 0), NO_ITEM);
        due("index: j", x.index(0, 0, 3, 0), NO_ITEM);
        due("index: k", x.index(0, 0, 0, 4), NO_ITEM);
        due("index: i below", x.index(0, -1, 0, 0), NO_ITEM);
        due("index: j below", x.index(0, 1, -1, 0), NO_ITEM);
        due("index: k below", x.index(0, 0, 1, MIN), NO_ITEM);
        x.shaped(INTS, 5, 7, NONE);
        due("index of two", x.index(1, 4, 6, 99), 34);
        due("index of two", x.index(1, 1, 0, -1), 7);
        x.tensor(INTS);
        due("index of none", x.index(2, -5, 99, MIN), 0);
        x.shaped(INTS, 3, 0, NONE);
        due("index: no ITEMS", x.index(3, 0, 0, 0), NO_ITEM);
        due("index: no TENSOR", x.index(4, 0, 0, 0), BAD);
        x.free(0);
        due("index: GONE", x.index(0, 9, 9, 9), GONE);
    }

    private static void promise9() {
        SpreadRules x = new SpreadRules();
        x.shaped(LONGS, 2, 3, 4);
        x.shaped(FLOATS, 7, 5, NONE);
        x.tensor(TRUTHS);
        int[][] told = {{3, 3, 24, 2, 3, 4}, {4, 2, 35, 7, 5, NONE}, {0, 0, 1, NONE, NONE, NONE}};
        for (int t = 0; t < 3; t++) {
            for (int what = 0; what < 6; what++) {
                due("of " + t + " " + what, x.of(t, what), told[t][what]);
            }
        }
        due("of 6", x.of(0, 6), BAD);
        due("of -1", x.of(0, -1), BAD);
        due("of no TENSOR", x.of(3, 0), BAD);
        x.free(0);
        due("of: GONE", x.of(0, 0), GONE);
        due("of: BAD ahead of GONE", x.of(0, 6), BAD);
    }

    private static void promise10Lanes() {
        int[][] joined = {{0, 1, 2, 3, 4, 5}, {1, 1, 2, 3, 4, 5}, {2, 2, 2, 3, 5, 5}, {3, 3, 3, 3, 5, 5}, {4, 4, 5, 5, 4, 5}, {5, 5, 5, 5, 5, 5}};
        for (int a = 0; a < 6; a++) {
            for (int b = 0; b < 6; b++) {
                for (int op = 0; op <= 22; op++) {
                    SpreadRules x = new SpreadRules();
                    x.setting(1);
                    x.tensor(a);
                    x.tensor(b);
                    int got = x.act(op, 0, 1);
                    due("LANE of act " + op + " of " + a + ", " + b, got < 0 ? got : x.of(got, 0), laneDue(op, joined[a][b]));
                }
            }
        }
    }

    private static int laneDue(int op, int joined) {
        boolean real = joined >= FLOATS;
        if (op >= 12 && op <= 17 && real) {
            return OTHER_LANE;
        }
        if (op >= 18 && op <= 21) {
            return TRUTHS;
        }
        if (op == 3) {
            return real ? joined : DOUBLES;
        }
        boolean stays = op >= 8 && op <= 14;
        return joined == TRUTHS && !stays ? INTS : joined;
    }

    private static void promise10Spread() {
        SpreadRules x = new SpreadRules();
        x.shaped(INTS, 3, 1, NONE);
        x.shaped(INTS, 2, 1, 4);
        for (int n = 0; n < 3; n++) {
            x.item(0, n, 100 * (n + 1));
        }
        for (int n = 0; n < 8; n++) {
            x.item(1, n, n);
        }
        due("act: spread", x.act(0, 0, 1), 2);
        due("act: EXTENTS", x.of(2, 1), 3);
        due("act: EXTENT", x.of(2, 3), 2);
        due("act: EXTENT", x.of(2, 4), 3);
        due("act: EXTENT", x.of(2, 5), 4);
        for (int i = 0; i < 2; i++) {
            for (int j = 0; j < 3; j++) {
                for (int k = 0; k < 4; k++) {
                    due("act: ITEM", x.bits(2, x.index(2, i, j, k), INTS), 100 * (j + 1) + 4 * i + k);
                }
            }
        }
        due("act: the other way round", x.act(1, 1, 0), 3);
        due("act: ITEM", x.bits(3, x.index(3, 1, 2, 3), INTS), 7 - 300);
        x.shaped(INTS, 2, 3, NONE);
        x.shaped(INTS, 3, 2, NONE);
        due("act: unlike at the last and the first", x.act(0, 4, 5), OTHER_EXTENTS);
        due("act: the last is told", x.place(), 0);
        x.shaped(INTS, 4, 3, 2);
        x.shaped(INTS, 5, 3, 2);
        due("act: unlike at the first", x.act(0, 6, 7), OTHER_EXTENTS);
        due("act: UNLIKE AXIS", x.place(), 2);
        due("act: unlike next to the last", x.act(0, 1, 4), OTHER_EXTENTS);
        due("act: UNLIKE AXIS", x.place(), 0);
        x.shaped(INTS, 0, 1, NONE);
        due("act: 3 with 0", x.act(0, 0, 8), OTHER_EXTENTS);
        due("act: UNLIKE AXIS", x.place(), 1);
        x.shaped(INTS, 1, 5, NONE);
        due("act: 1 with 0", x.act(4, 8, 9), 10);
        due("act: no ITEMS", x.of(10, 2), 0);
        due("act: EXTENT", x.of(10, 3), 0);
        due("act: EXTENT", x.of(10, 4), 5);
        x.shaped(INTS, 60, 1, NONE);
        x.shaped(INTS, 5, NONE, NONE);
        due("act: 300 ITEMS", x.act(0, 11, 12), OTHER_EXTENTS);
        due("act: PLACE", x.place(), NONE);
        x.shaped(INTS, 4, NONE, NONE);
        due("act: 240 ITEMS", x.act(0, 11, 13), 14);
        due("act: without EXTENTS", x.tensor(INTS), 15);
        x = new SpreadRules();
        x.tensor(INTS);
        due("act: of none", x.act(0, 0, 0), 1);
        due("act: EXTENTS", x.of(1, 1), 0);
    }

    private static void promise10Wholes() {
        long minLong = Long.MIN_VALUE;
        dueWhole(0, TRUTHS, 1, 1, INTS, 2);
        dueWhole(1, TRUTHS, 0, 1, INTS, -1);
        dueWhole(2, BYTES, 100, 100, BYTES, 16);
        dueWhole(0, INTS, MAX, 1, INTS, MIN);
        dueWhole(1, LONGS, minLong, 1, LONGS, Long.MAX_VALUE);
        dueWhole(2, LONGS, minLong, -1, LONGS, minLong);
        dueWhole(3, INTS, 1, 0, DOUBLES, d(INFINITE));
        dueWhole(3, TRUTHS, 0, 0, DOUBLES, d(NO_NUMBER));
        dueWhole(3, LONGS, (1L << 53) + 1, 1, DOUBLES, d(9007199254740992.0));
        dueWhole(3, BYTES, -1, 3, DOUBLES, d(-1 / 3.0));
        int[][] divisions = {{7, 2, 3, 3, 1, 1}, {-7, 2, -3, -4, -1, 1}, {7, -2, -3, -4, 1, -1}, {-7, -2, 3, 3, -1, -1}, {-8, 2, -4, -4, 0, 0}};
        for (int lane = BYTES; lane <= LONGS; lane++) {
            for (int[] v : divisions) {
                for (int op = 4; op <= 7; op++) {
                    dueWhole(op, lane, v[0], v[1], lane, v[op - 2]);
                }
            }
        }
        long[] least = {0, -128, MIN, minLong};
        for (int lane = BYTES; lane <= LONGS; lane++) {
            dueWhole(4, lane, least[lane], -1, lane, least[lane]);
            dueWhole(5, lane, least[lane], -1, lane, least[lane]);
            dueWhole(6, lane, least[lane], -1, lane, 0);
            dueWhole(7, lane, least[lane], -1, lane, 0);
            dueWhole(22, lane, least[lane], 1, lane, least[lane]);
            dueWhole(22, lane, least[lane], -1, lane, least[lane]);
            dueWhole(22, lane, -5, 0, lane, 5);
            dueWhole(22, lane, 5, -9, lane, -5);
            dueWhole(8, lane, least[lane], 3, lane, least[lane]);
            dueWhole(9, lane, least[lane], 3, lane, 3);
            dueWhole(10, lane, 4, 3, lane, 3);
            dueWhole(11, lane, 4, 3, lane, 4);
            dueWhole(12, lane, 12, 10, lane, 8);
            dueWhole(13, lane, 12, 10, lane, 14);
            dueWhole(14, lane, 12, -1, lane, -13);
            dueWhole(18, lane, -1, 0, TRUTHS, 1);
            dueWhole(19, lane, 1, 1, TRUTHS, 1);
            dueWhole(20, lane, 1, 2, TRUTHS, 0);
            dueWhole(21, lane, 1, 2, TRUTHS, 1);
        }
        for (int op = 8; op <= 14; op++) {
            dueWhole(op, TRUTHS, 1, 0, TRUTHS, op == 8 || op == 10 || op == 12 ? 0 : 1);
        }
        dueWhole(14, TRUTHS, 1, 1, TRUTHS, 0);
        dueWhole(15, TRUTHS, 1, 1, INTS, 2);
        dueWhole(4, TRUTHS, 1, 1, INTS, 1);
        dueWhole(22, TRUTHS, 1, 0, INTS, 1);
        dueWhole(15, BYTES, 3, 15, BYTES, -128);
        dueWhole(15, INTS, 3, 63, INTS, MIN);
        dueWhole(15, LONGS, 3, 127, LONGS, minLong);
        dueWhole(16, BYTES, -128, -1, BYTES, -1);
        dueWhole(16, INTS, MIN, 33, INTS, MIN >> 1);
        dueWhole(16, LONGS, minLong, 65, LONGS, minLong >> 1);
        dueWhole(17, BYTES, -128, 9, BYTES, 64);
        dueWhole(17, BYTES, -56, 8, BYTES, -56);
        dueWhole(17, INTS, -1, 28, INTS, 15);
        dueWhole(17, INTS, -1, 32, INTS, -1);
        dueWhole(17, LONGS, -1, 60, LONGS, 15);
        divisionsByZero();
    }

    private static void divisionsByZero() {
        for (int lane = TRUTHS; lane <= LONGS; lane++) {
            for (int op = 4; op <= 7; op++) {
                SpreadRules x = new SpreadRules();
                row(x, lane, 1, 1, 1, 1);
                row(x, lane, 1, 1, 0, 0);
                due("by 0", x.act(op, 0, 1), BY_ZERO);
                due("by 0: PLACE", x.place(), 2);
                due("by 0: changes nothing", x.count(0), 2);
                due("by 0: not MISSING", x.count(2), 0);
                x.setting(1);
                due("by 0, SETTING 1", x.act(op, 0, 1), 2);
                dueRow("by 0, SETTING 1", x, 2, lane == TRUTHS ? INTS : lane, op < 6 ? 1 : 0, op < 6 ? 1 : 0, 0, 0);
                due("by 0: MISSING", x.count(2), 2);
            }
        }
    }

    private static void promise10Reals() {
        double tiny = Double.MIN_VALUE;
        double max = Double.MAX_VALUE;
        dueDouble(0, 0.1, 0.2, 0.30000000000000004);
        dueDouble(0, 1e16, 1, 1e16);
        dueDouble(0, -0.0, -0.0, -0.0);
        dueDouble(0, -0.0, 0.0, 0.0);
        dueDouble(0, max, max, INFINITE);
        dueDouble(0, INFINITE, -INFINITE, NO_NUMBER);
        dueDouble(1, 5, 5, 0.0);
        dueDouble(1, INFINITE, INFINITE, NO_NUMBER);
        dueDouble(1, 0.0, 0.0, 0.0);
        dueDouble(2, tiny, 0.5, 0.0);
        dueDouble(2, tiny, -0.5, -0.0);
        dueDouble(2, 3 * tiny, 0.5, 2 * tiny);
        dueDouble(2, INFINITE, 0, NO_NUMBER);
        dueDouble(2, 0.1, 3, 0.30000000000000004);
        dueDouble(3, 1, 3, 0.3333333333333333);
        dueDouble(3, 1, -0.0, -INFINITE);
        dueDouble(3, 0, 0, NO_NUMBER);
        dueDouble(3, INFINITE, -INFINITE, NO_NUMBER);
        dueDouble(3, -1, INFINITE, -0.0);
        dueFloat(0, 16777216, 1, 16777216);
        dueFloat(0, 16777216, 3, 16777220);
        dueFloat(2, 1e30, 1e30, INFINITE);
        dueFloat(3, 1, 3, 1f / 3f);
        dueDouble(4, -7, 2, -3);
        dueDouble(4, -1, 2, -0.0);
        dueDouble(4, 1, 0, INFINITE);
        dueDouble(5, -7, 2, -4);
        dueDouble(5, 1, 2, 0.0);
        dueDouble(5, 0, -2, -0.0);
        dueDouble(5, 1, 0.1, 10);
        dueFloat(5, 1, 0.1f, 10);
        dueFloat(4, 16777215, 0.99999994f, 16777216);
        dueDouble(6, 1, 0.1, 0.09999999999999995);
        dueDouble(6, -7, 2, -1);
        dueDouble(6, -4, 2, -0.0);
        dueDouble(6, 5, INFINITE, 5);
        dueDouble(6, INFINITE, 5, NO_NUMBER);
        dueDouble(6, 5, 0, NO_NUMBER);
        dueDouble(6, -0.0, 5, -0.0);
        dueDouble(6, max, tiny, 0.0);
        dueDouble(6, 1e300, 7, 1e300 % 7);
        dueDouble(7, -7, 2, 1);
        dueDouble(7, 7, -2, -1);
        dueDouble(7, -4, 2, -0.0);
        dueDouble(7, 4, -2, 0.0);
        dueDouble(7, -1e-20, 3, 3);
        dueDouble(7, 5, -INFINITE, -INFINITE);
        dueDouble(7, -5, -INFINITE, -5);
        dueDouble(7, 5, 0, NO_NUMBER);
        dueFloat(7, -1, 0.3f, -1f % 0.3f + 0.3f);
        for (int op = 8; op <= 11; op++) {
            boolean lesser = op == 8 || op == 10;
            dueDouble(op, 0.0, -0.0, lesser ? -0.0 : 0.0);
            dueDouble(op, -0.0, 0.0, lesser ? -0.0 : 0.0);
            dueDouble(op, -3, -2, lesser ? -3 : -2);
            dueFloat(op, -3, 2, lesser ? -3 : 2);
            dueFloat(op, INFINITE, -INFINITE, lesser ? -INFINITE : INFINITE);
            dueDouble(op, NO_NUMBER, 1, op < 10 ? NO_NUMBER : 1);
            dueDouble(op, 1, NO_NUMBER, op < 10 ? NO_NUMBER : 1);
            dueFloat(op, NO_NUMBER, -1, op < 10 ? NO_NUMBER : -1);
            dueFloat(op, NO_NUMBER, NO_NUMBER, NO_NUMBER);
        }
        comparisonsOfReals();
        dueDouble(22, -3, NO_NUMBER, 3);
        dueDouble(22, NO_NUMBER, -1, NO_NUMBER);
        dueDouble(22, 3, -0.0, -3);
        dueDouble(22, -0.0, 2, 0.0);
        dueFloat(22, INFINITE, -2, -INFINITE);
        dueFloat(22, NO_NUMBER, -2, NO_NUMBER);
    }

    private static void comparisonsOfReals() {
        double[][] pairs = {{1, 2}, {2, 1}, {-1, -2}, {-0.0, 0.0}, {0.0, -0.0}, {INFINITE, INFINITE}, {-INFINITE, -1}, {NO_NUMBER, 1}, {1, NO_NUMBER},
            {NO_NUMBER, NO_NUMBER}};
        for (double[] p : pairs) {
            dueCompared(18, p[0], p[1], p[0] < p[1] ? 1 : 0);
            dueCompared(19, p[0], p[1], p[0] <= p[1] ? 1 : 0);
            dueCompared(20, p[0], p[1], p[0] == p[1] ? 1 : 0);
            dueCompared(21, p[0], p[1], p[0] != p[1] ? 1 : 0);
        }
        SpreadRules x = new SpreadRules();
        row(x, LONGS, (1L << 53) + 1);
        doubles(x, 9007199254740992.0);
        due("LONGS go TO DOUBLES first", x.bits(x.act(20, 0, 1), 0, TRUTHS), 1);
        row(x, INTS, 16777217);
        floats(x, 16777216);
        due("INTS and FLOATS as DOUBLES", x.bits(x.act(20, 3, 4), 0, TRUTHS), 0);
    }

    private static void promise10Order() {
        SpreadRules x = new SpreadRules();
        x.shaped(INTS, 2, NONE, NONE);
        x.shaped(DOUBLES, 3, NONE, NONE);
        x.shaped(INTS, 3, NONE, NONE);
        due("act: no ACT", x.act(23, 0, 0), BAD);
        due("act: no ACT", x.act(-1, 0, 0), BAD);
        due("act: no TENSOR", x.act(0, 3, 0), BAD);
        due("act: no TENSOR", x.act(0, 0, -1), BAD);
        due("act: no FAILURES", x.count(3), 0);
        due("act: LANE ahead of EXTENTS", x.act(12, 0, 1), OTHER_LANE);
        due("act: PLACE", x.place(), NONE);
        due("act: EXTENTS ahead of 0", x.act(4, 0, 2), OTHER_EXTENTS);
        due("act: by 0", x.act(4, 0, 0), BY_ZERO);
        x.free(1);
        due("act: GONE ahead of LANE", x.act(12, 0, 1), GONE);
        due("act: GONE", x.act(12, 1, 0), GONE);
        due("act: BAD ahead of GONE", x.act(23, 1, 0), BAD);
        x = full();
        x.free(1);
        due("act: FULL ahead of GONE", x.act(0, 1, 1), FULL);
        due("act: BAD ahead of FULL", x.act(0, 1, 16), BAD);
        due("act: FULL is no FAILURE", x.count(3), 0);
    }

    private static void promise11() {
        SpreadRules x = new SpreadRules();
        row(x, INTS, 1, 2, 3);
        x.tensor(INTS);
        x.item(1, 0, 10);
        due("into", x.into(0, 0, 1, 0), 1);
        dueRow("into itself", x, 0, INTS, 11, 12, 13);
        due("into makes none", x.count(0), 2);
        x.shaped(DOUBLES, 3, NONE, NONE);
        due("into DOUBLES", x.into(2, 0, 0, 2), 1);
        dueDoubles("into DOUBLES", x, 2, 121, 144, 169);
        x.shaped(LONGS, 3, NONE, NONE);
        due("into LONGS", x.into(18, 0, 2, 3), 1);
        dueRow("TRUTHS into LONGS", x, 3, LONGS, 1, 1, 1);
        x.shaped(FLOATS, 3, NONE, NONE);
        due("into FLOATS", x.into(19, 0, 0, 4), 1);
        dueFloats("TRUTHS into FLOATS", x, 4, 1, 1, 1);
        row(x, BYTES, -5, 6, 0);
        due("into FLOATS", x.into(0, 5, 5, 4), 1);
        dueFloats("BYTES into FLOATS", x, 4, -10, 12, 0);
        x.shaped(TRUTHS, 3, NONE, NONE);
        due("into TRUTHS", x.into(20, 5, 6, 6), 1);
        dueRow("TRUTHS into TRUTHS", x, 6, TRUTHS, 0, 0, 1);
        x.setting(1);
        due("into, by 0", x.into(4, 0, 5, 3), 1);
        dueRow("into, by 0", x, 3, LONGS, -2, 2, 0);
        due("into: MISSING", x.count(2), 1);
        x.shaped(INTS, 0, NONE, NONE);
        x.setting(0);
        due("into: no ITEMS", x.into(4, 7, 7, 7), 1);
        SpreadRules y = full();
        due("into: never FULL", y.into(0, 1, 2, 3), 1);
    }

    private static void promise11Order() {
        SpreadRules x = new SpreadRules();
        x.shaped(INTS, 2, NONE, NONE);
        x.shaped(INTS, 3, NONE, NONE);
        x.shaped(FLOATS, 2, NONE, NONE);
        x.shaped(INTS, 1, 2, NONE);
        row(x, INTS, 5, 0);
        row(x, INTS, 7, 8);
        due("into: no ACT", x.into(23, 0, 0, 0), BAD);
        due("into: no ACT", x.into(-1, 0, 0, 0), BAD);
        due("into: no TENSOR", x.into(0, 6, 0, 0), BAD);
        due("into: no TENSOR", x.into(0, 0, 6, 0), BAD);
        due("into: no TENSOR", x.into(0, 0, 0, 6), BAD);
        due("into: no FAILURES", x.count(3), 0);
        due("into: ACT's LANE ahead of EXTENTS", x.into(12, 1, 2, 0), OTHER_LANE);
        due("into: SPREAD", x.into(0, 0, 1, 2), OTHER_EXTENTS);
        due("into: UNLIKE AXIS", x.place(), 0);
        due("into: other EXTENTS ahead of LANE", x.into(0, 1, 1, 2), OTHER_EXTENTS);
        due("into: PLACE", x.place(), NONE);
        due("into: one EXTENT more", x.into(0, 0, 0, 3), OTHER_EXTENTS);
        due("into: one EXTENT less", x.into(0, 0, 3, 0), OTHER_EXTENTS);
        due("into: LANE ahead of 0", x.into(4, 5, 4, 2), OTHER_LANE);
        due("into: by 0", x.into(4, 5, 4, 5), BY_ZERO);
        due("into: PLACE", x.place(), 1);
        dueRow("into: by 0 changes nothing", x, 5, INTS, 7, 8);
        due("into: LONGS for FLOATS", x.into(0, x.shaped(LONGS, 2, NONE, NONE), 0, 2), OTHER_LANE);
        due("into: DOUBLES for FLOATS", x.into(3, 0, 0, 2), OTHER_LANE);
        due("into: INTS for BYTES", x.into(0, 0, 0, x.shaped(BYTES, 2, NONE, NONE)), OTHER_LANE);
        due("into: INTS for TRUTHS", x.into(0, 0, 0, x.shaped(TRUTHS, 2, NONE, NONE)), OTHER_LANE);
        due("into: FLOATS for INTS", x.into(0, 2, 2, 0), OTHER_LANE);
        x.free(1);
        due("into: GONE", x.into(12, 0, 1, 0), GONE);
        due("into: GONE", x.into(12, 1, 0, 0), GONE);
        due("into: target GONE ahead of LANE", x.into(12, 2, 2, 1), GONE);
        due("into: too many ITEMS", x.into(0, x.shaped(INTS, 60, 1, NONE), x.shaped(INTS, 60, NONE, NONE), 0), OTHER_EXTENTS);
        due("into: PLACE", x.place(), NONE);
    }

    private static void promise12() {
        SpreadRules x = new SpreadRules();
        doubles(x, -1.5, -0.5, -0.0, 0.0, 0.5, 1.5, 2.5, -INFINITE, NO_NUMBER, 1e300);
        dueDoubles("one 0", x, x.one(0, 0), 1.5, 0.5, 0.0, -0.0, -0.5, -1.5, -2.5, INFINITE, NO_NUMBER, -1e300);
        dueDoubles("one 1", x, x.one(1, 0), 1.5, 0.5, 0.0, 0.0, 0.5, 1.5, 2.5, INFINITE, NO_NUMBER, 1e300);
        dueDoubles("one 2", x, x.one(2, 0), -1, -1, -0.0, 0.0, 1, 1, 1, -1, NO_NUMBER, 1);
        dueDoubles("one 3", x, x.one(3, 0), -2, -1, -0.0, 0.0, 0.0, 1, 2, -INFINITE, NO_NUMBER, 1e300);
        dueDoubles("one 4", x, x.one(4, 0), -1, -0.0, -0.0, 0.0, 1, 2, 3, -INFINITE, NO_NUMBER, 1e300);
        dueDoubles("one 5", x, x.one(5, 0), -2, -0.0, -0.0, 0.0, 0.0, 2, 2, -INFINITE, NO_NUMBER, 1e300);
        dueDoubles("one 6", x, x.one(6, 0), -1, -0.0, -0.0, 0.0, 0.0, 1, 2, -INFINITE, NO_NUMBER, 1e300);
        dueRow("one 8", x, x.one(8, 0), TRUTHS, 0, 0, 0, 0, 0, 0, 0, 0, 1, 0);
        due("one 7 of DOUBLES", x.one(7, 0), OTHER_LANE);
        due("one: PLACE", x.place(), NONE);
        due("one 9", x.one(9, 0), BAD);
        due("one -1", x.one(-1, 0), BAD);
        due("one: no TENSOR", x.one(0, 99), BAD);
        x.free(0);
        due("one: GONE ahead of LANE", x.one(7, 0), GONE);
        x = new SpreadRules();
        floats(x, -2.5, 0.49999997f, 8388607.5, -0.0, NO_NUMBER);
        dueFloats("one 0 of FLOATS", x, x.one(0, 0), 2.5, -0.49999997f, -8388607.5, 0.0, NO_NUMBER);
        dueFloats("one 2 of FLOATS", x, x.one(2, 0), -1, 1, 1, -0.0, NO_NUMBER);
        dueFloats("one 5 of FLOATS", x, x.one(5, 0), -2, 0, 8388608, -0.0, NO_NUMBER);
        dueFloats("one 4 of FLOATS", x, x.one(4, 0), -2, 1, 8388608, -0.0, NO_NUMBER);
        dueRow("one 8 of FLOATS", x, x.one(8, 0), TRUTHS, 0, 0, 0, 0, 1);
        due("one 7 of FLOATS", x.one(7, 0), OTHER_LANE);
        promise12Wholes();
    }

    private static void promise12Wholes() {
        long[] least = {0, -128, MIN, Long.MIN_VALUE};
        for (int lane = BYTES; lane <= LONGS; lane++) {
            SpreadRules x = new SpreadRules();
            row(x, lane, least[lane], -7, 0, 9);
            dueRow("one 0", x, x.one(0, 0), lane, least[lane], 7, 0, -9);
            dueRow("one 1", x, x.one(1, 0), lane, least[lane], 7, 0, 9);
            dueRow("one 2", x, x.one(2, 0), lane, -1, -1, 0, 1);
            for (int op = 3; op <= 6; op++) {
                dueRow("one " + op, x, x.one(op, 0), lane, least[lane], -7, 0, 9);
            }
            dueRow("one 7", x, x.one(7, 0), lane, ~least[lane], 6, -1, -10);
            dueRow("one 8", x, x.one(8, 0), TRUTHS, 0, 0, 0, 0);
        }
        SpreadRules x = new SpreadRules();
        row(x, TRUTHS, 1, 0);
        dueRow("one 0 of TRUTHS", x, x.one(0, 0), INTS, -1, 0);
        dueRow("one 1 of TRUTHS", x, x.one(1, 0), INTS, 1, 0);
        dueRow("one 2 of TRUTHS", x, x.one(2, 0), INTS, 1, 0);
        dueRow("one 5 of TRUTHS", x, x.one(5, 0), TRUTHS, 1, 0);
        dueRow("one 7 of TRUTHS", x, x.one(7, 0), TRUTHS, 0, 1);
        dueRow("one 8 of TRUTHS", x, x.one(8, 0), TRUTHS, 0, 0);
        x.shaped(INTS, 2, 3, 4);
        int t = x.one(0, x.count(0) - 1);
        due("one: EXTENTS", x.of(t, 1), 3);
        due("one: EXTENT", x.of(t, 3), 2);
        due("one: EXTENT", x.of(t, 5), 4);
        x = full();
        x.free(0);
        due("one: FULL ahead of GONE", x.one(0, 0), FULL);
        due("one: BAD ahead of FULL", x.one(9, 0), BAD);
    }

    private static void promise13() {
        SpreadRules x = new SpreadRules();
        doubles(x, -1.9, 300.7, 3e9, -3e9, 1e19, -1e19, NO_NUMBER, INFINITE, -0.0, 1e-320);
        dueRow("cast TRUTHS", x, x.cast(0, TRUTHS), TRUTHS, 1, 1, 1, 1, 1, 1, 1, 1, 0, 1);
        dueRow("cast BYTES", x, x.cast(0, BYTES), BYTES, -1, 44, -1, 0, -1, 0, 0, -1, 0, 0);
        dueRow("cast INTS", x, x.cast(0, INTS), INTS, -1, 300, MAX, MIN, MAX, MIN, 0, MAX, 0, 0);
        dueRow("cast LONGS", x, x.cast(0, LONGS), LONGS, -1, 300, 3000000000L, -3000000000L, Long.MAX_VALUE, Long.MIN_VALUE, 0, Long.MAX_VALUE, 0, 0);
        dueFloats("cast FLOATS", x, x.cast(0, FLOATS), -1.9f, 300.7f, 3e9f, -3e9f, 1e19f, -1e19f, NO_NUMBER, INFINITE, -0.0, 0.0);
        due("cast: itself", x.same(x.cast(0, DOUBLES), 0), 1);
        doubles(x, 1 + Math.pow(2, -24), 1 + 3 * Math.pow(2, -24), 1e39, -1e39, 3.4028235677973362e38, 3.4028235677973366e38, Math.pow(2, -150),
            1.5 * Math.pow(2, -149), -1e-50);
        dueFloats("cast FLOATS, ties and ends", x, x.cast(x.count(0) - 1, FLOATS), 1, 1 + Math.pow(2, -22), INFINITE, -INFINITE, Float.MAX_VALUE, INFINITE, 0,
            Math.pow(2, -148), -0.0);
        row(x, LONGS, (1L << 53) + 1, (1L << 53) + 3, Long.MIN_VALUE, Long.MAX_VALUE, (1L << 60) + (1L << 36) + 1, 256, 1L << 32);
        int longs = x.count(0) - 1;
        dueDoubles("cast LONGS", x, x.cast(longs, DOUBLES), 0x1p53, 0x1p53 + 4, -0x1p63, 0x1p63, (double) ((1L << 60) + (1L << 36)), 256, 0x1p32);
        dueFloats("cast LONGS once", x, x.cast(longs, FLOATS), 0x1p53, 0x1p53, -0x1p63, 0x1p63, 0x1.000002p60, 256, 0x1p32);
        dueRow("cast LONGS", x, x.cast(longs, INTS), INTS, 1, 3, 0, -1, 1, 256, 0);
        dueRow("cast LONGS", x, x.cast(longs, BYTES), BYTES, 1, 3, 0, -1, 1, 0, 0);
        dueRow("cast LONGS", x, x.cast(longs, TRUTHS), TRUTHS, 1, 1, 1, 1, 1, 1, 1);
        x = new SpreadRules();
        row(x, TRUTHS, 1, 0);
        dueRow("cast TRUTHS", x, x.cast(0, BYTES), BYTES, 1, 0);
        dueFloats("cast TRUTHS", x, x.cast(0, FLOATS), 1, 0);
        dueDoubles("cast TRUTHS", x, x.cast(0, DOUBLES), 1, 0);
        floats(x, -0.0, NO_NUMBER, 1e30, 0.1f);
        dueRow("cast FLOATS", x, x.cast(4, TRUTHS), TRUTHS, 0, 1, 1, 1);
        dueDoubles("cast FLOATS", x, x.cast(4, DOUBLES), -0.0, NO_NUMBER, 1e30f, 0.1f);
        dueRow("cast FLOATS", x, x.cast(4, BYTES), BYTES, 0, 0, -1, 0);
        x.shaped(INTS, 2, 0, 3);
        int none = x.cast(x.count(0) - 1, FLOATS);
        due("cast: EXTENTS", x.of(none, 5), 3);
        due("cast: ITEMS", x.of(none, 2), 0);
        due("cast: no LANE", x.cast(0, 6), BAD);
        due("cast: no LANE", x.cast(0, -1), BAD);
        due("cast: no TENSOR", x.cast(-1, 0), BAD);
        x.free(0);
        due("cast: GONE", x.cast(0, 0), GONE);
        x = full();
        x.free(0);
        due("cast: FULL ahead of GONE", x.cast(0, 0), FULL);
        due("cast: BAD ahead of FULL", x.cast(0, 6), BAD);
    }

    private static void promise14() {
        SpreadRules x = new SpreadRules();
        x.shaped(TRUTHS, 2, 1, NONE);
        x.item(0, 0, 1);
        row(x, INTS, 1, 2, 3);
        x.tensor(FLOATS);
        x.item(2, 0, f(0.5));
        due("where", x.where(0, 1, 2), 3);
        dueDoubles("where", x, 3, 1, 2, 3, 0.5, 0.5, 0.5);
        due("where: EXTENTS", x.of(3, 1), 2);
        due("where", x.where(0, 2, 1), 4);
        dueDoubles("where", x, 4, 0.5, 0.5, 0.5, 1, 2, 3);
        x.shaped(INTS, 2, NONE, NONE);
        due("where: unlike", x.where(0, 1, 5), OTHER_EXTENTS);
        due("where: UNLIKE AXIS", x.place(), 0);
        x.shaped(INTS, 3, 1, NONE);
        due("where: the mask is unlike", x.where(0, 6, 6), OTHER_EXTENTS);
        due("where: UNLIKE AXIS", x.place(), 1);
        due("where: mask ahead of EXTENTS", x.where(1, 1, 5), OTHER_LANE);
        due("where: PLACE", x.place(), NONE);
        x.shaped(TRUTHS, 60, 1, 1);
        x.shaped(INTS, 3, 1, NONE);
        due("where: too many ITEMS", x.where(7, 8, 1), OTHER_EXTENTS);
        due("where: PLACE", x.place(), NONE);
        due("where: a and b TRUTHS", x.where(0, 0, 0), 9);
        dueRow("where: TRUTHS", x, 9, TRUTHS, 1, 0);
        due("where: no TENSOR", x.where(10, 0, 0), BAD);
        due("where: no TENSOR", x.where(0, -1, 0), BAD);
        due("where: no TENSOR", x.where(0, 0, 10), BAD);
        x.free(6);
        due("where: GONE", x.where(6, 0, 0), GONE);
        due("where: GONE", x.where(0, 6, 0), GONE);
        due("where: GONE ahead of LANE", x.where(1, 0, 6), GONE);
        x = full();
        x.free(1);
        due("where: FULL ahead of GONE", x.where(0, 1, 1), FULL);
        due("where: BAD ahead of FULL", x.where(0, 1, 16), BAD);
        x = new SpreadRules();
        x.shaped(TRUTHS, 0, 1, 1);
        x.shaped(INTS, 60, 1, NONE);
        x.shaped(INTS, 60, NONE, NONE);
        due("where: a mask without ITEMS leaves none", x.where(0, 1, 2), 3);
        due("where: ITEMS", x.of(3, 2), 0);
        due("where: EXTENTS", x.of(3, 1), 3);
    }

    private static void promise15() {
        SpreadRules x = new SpreadRules();
        row(x, INTS, 1, 2, 3, 4, 5);
        x.shaped(INTS, 2, 2, NONE);
        due("copy", x.copy(0, 1, 1, 2, 2), 2);
        dueRow("copy", x, 1, INTS, 0, 0, 2, 3);
        due("copy onto itself", x.copy(0, 0, 0, 1, 4), 4);
        dueRow("copy onto itself", x, 0, INTS, 1, 1, 2, 3, 4);
        due("copy back", x.copy(0, 1, 0, 0, 4), 4);
        dueRow("copy back", x, 0, INTS, 1, 2, 3, 4, 4);
        due("copy all", x.copy(1, 0, 0, 0, 4), 4);
        dueRow("copy all", x, 0, INTS, 0, 0, 2, 3, 4);
        due("copy none at the end", x.copy(0, 5, 1, 4, 0), 0);
        due("copy none beyond the end", x.copy(0, 6, 1, 0, 0), NO_ITEM);
        due("copy none beyond the other's end", x.copy(0, 0, 1, 5, 0), NO_ITEM);
        due("copy: i below", x.copy(0, -1, 1, 0, 1), NO_ITEM);
        due("copy: j below", x.copy(0, 0, 1, -1, 1), NO_ITEM);
        due("copy: n below", x.copy(0, 0, 1, 0, -1), NO_ITEM);
        due("copy: too many here", x.copy(0, 3, 1, 0, 3), NO_ITEM);
        due("copy: too many there", x.copy(0, 0, 1, 2, 3), NO_ITEM);
        due("copy: running over", x.copy(0, 1, 1, 1, MAX), NO_ITEM);
        due("copy: running over", x.copy(0, MAX, 1, MAX, MAX), NO_ITEM);
        due("copy: PLACE", x.place(), NONE);
        dueRow("copy: FAILURES change nothing", x, 1, INTS, 0, 0, 2, 3);
        x.shaped(LONGS, 5, NONE, NONE);
        due("copy: LANE ahead of ITEM", x.copy(0, -1, 2, 0, 1), OTHER_LANE);
        due("copy: no TENSOR", x.copy(3, 0, 0, 0, 0), BAD);
        due("copy: no TENSOR", x.copy(0, 0, 3, 0, 0), BAD);
        x.free(2);
        due("copy: GONE ahead of LANE", x.copy(0, 0, 2, 0, 1), GONE);
        due("copy: GONE", x.copy(2, 0, 0, 0, 1), GONE);
    }

    private static void promise16() {
        SpreadRules x = new SpreadRules();
        row(x, INTS, 1, 2);
        row(x, INTS, 1, 2);
        row(x, LONGS, 1, 2);
        x.shaped(INTS, 2, 1, NONE);
        x.copy(0, 0, 3, 0, 2);
        due("same", x.same(0, 1), 1);
        due("same: other LANE", x.same(0, 2), 0);
        due("same: other EXTENTS", x.same(0, 3), 0);
        x.item(1, 1, 3);
        due("same: other VALUES", x.same(0, 1), 0);
        doubles(x, NO_NUMBER, 0.0);
        doubles(x, NO_NUMBER, 0.0);
        due("same: no number is told alike", x.same(4, 5), 1);
        x.item(5, 1, d(-0.0));
        due("same: zeros are told unlike", x.same(4, 5), 0);
        x.shaped(INTS, 0, 2, NONE);
        x.shaped(INTS, 0, 3, NONE);
        due("same: no ITEMS", x.same(6, 7), 0);
        due("same: no TENSOR", x.same(0, 8), BAD);
        due("same: no TENSOR", x.same(-1, 0), BAD);
        x.free(1);
        due("same: GONE", x.same(0, 1), GONE);
        due("same: GONE", x.same(1, 1), GONE);
    }

    private static void promise17() {
        SpreadRules x = new SpreadRules();
        row(x, INTS, 1, 1);
        row(x, INTS, 1, 0);
        row(x, INTS, 1, 0, 3);
        due("place: before any", x.place(), NONE);
        x.act(4, 0, 1);
        due("place: by 0", x.place(), 1);
        x.act(23, 0, 1);
        x.act(0, 0, 1);
        due("place: BAD and what goes well leave it", x.place(), 1);
        x.act(0, 0, 2);
        due("place: UNLIKE AXIS", x.place(), 0);
        x.free(0);
        x.free(0);
        due("place: GONE", x.place(), NONE);
    }

    private static void promise18() {
        SpreadRules x = new SpreadRules();
        row(x, INTS, 1, 0);
        x.tensor(INTS);
        x.free(1);
        due("count 0", x.count(0), 2);
        due("count 1", x.count(1), 1);
        x.setting(1);
        x.act(4, 0, 0);
        x.act(7, 0, 0);
        x.act(3, 0, 0);
        due("count 2", x.count(2), 2);
        x.free(1);
        x.item(0, 9, 9);
        x.bits(0, 0, BYTES);
        x.of(99, 0);
        due("count 3", x.count(3), 3);
        due("count 4", x.count(4), BAD);
        due("count -1", x.count(-1), BAD);
        due("count: no FAILURE", x.count(3), 3);
    }
}
