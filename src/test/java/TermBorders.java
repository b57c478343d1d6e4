/**
 * The document's "Terms", sentence by sentence: each that has a border has a method of its own, which goes to the
 * last input that is still allowed and to the first one that is not.
 */
public final class TermBorders extends Rows {
    private TermBorders() {
    }

    public static void main(String[] args) {
        sixteenTensorsAtMost();
        numberedFromZero();
        lanesZeroToFive();
        upToThreeExtents();
        extentsUpToSixty();
        extentsFromZero();
        itemsAreTheProduct();
        oneItemWithoutExtents();
        at240ItemsItEnds();
        noItemsWhereAnExtentIsZero();
        everyShape();
        allZeroAtFirst();
        lastIndexRunsFirst();
        goneFromEachCall();
        truthsAreTold();
        noNumberIsToldOneWay();
        givenByLowestBits();
        fromTruths();
        toTruths();
        wholesToNarrowerWholes();
        wholesToWiderWholes();
        realsAreCut();
        realsToBytes();
        realsToInts();
        realsToLongs();
        noNumberToWholes();
        wholesToTheNearestReal();
        longsToFloatsOnce();
        doublesToTheNearestFloat();
        doublesBeyondAllFloats();
        doublesBelowAllFloats();
        floatsToDoubles();
        joinedLanes();
        extentOfOneBecomesTheOther();
        elseBothMustBeAlike();
        unlikeAxisIsTheFirstFromTheLast();
        itemOfTheSpread();
        everyPairOfSmallShapes();
        Due.end();
    }

    /** A VALUE goes TO a LANE by cast, and, where that LANE is the JOINED one, by where, into and an ACT that leaves it. */
    private static void dueTo(String sentence, int from, long value, int to, long want) {
        SpreadRules x = new SpreadRules();
        x.tensor(from);
        x.item(0, 0, value);
        String what = sentence + ": " + value + " of LANE " + from;
        dueRow(what, x, x.cast(0, to), to, want);
        if (joined(from, to) == to) {
            x.tensor(TRUTHS);
            x.tensor(to);
            dueRow(what + ", by where", x, x.where(2, 3, 0), to, want);
            due(what + ", by into", x.into(9, 0, 0, 3), 1);
            dueRow(what + ", by into", x, 3, to, want);
            dueRow(what + ", by act", x, x.act(9, 0, 3), to, want);
        }
    }

    private static int joined(int a, int b) {
        boolean whole = a == INTS || a == LONGS || b == INTS || b == LONGS;
        boolean withFloats = a == FLOATS || b == FLOATS;
        return whole && withFloats ? DOUBLES : Math.max(a, b);
    }

    // "TENSORS, 16 at most": each call that makes one makes the 16th, and not the 17th.
    private static void sixteenTensorsAtMost() {
        for (int call = 0; call < 6; call++) {
            SpreadRules x = new SpreadRules();
            for (int t = 0; t < 15; t++) {
                due("TENSOR " + t, x.tensor(TRUTHS), t);
            }
            due("the 16th TENSOR, by call " + call, makeBy(x, call), 15);
            for (int next = 0; next < 6; next++) {
                due("the 17th TENSOR, by call " + next, makeBy(x, next), FULL);
            }
            due("TENSORS", x.count(0), 16);
            due("FULL is no FAILURE", x.count(3), 0);
            due("FULL has no PLACE", x.place(), NONE);
            due("TENSOR 15 is there", x.of(15, 2), 1);
            due("TENSOR 16 is not", x.of(16, 2), BAD);
        }
        SpreadRules x = full();
        for (int t = 0; t < 16; t++) {
            due("free", x.free(t), 1);
        }
        for (int next = 0; next < 2; next++) {
            due("GONE ones leave no room, call " + next, makeBy(x, next), FULL);
        }
    }

    private static int makeBy(SpreadRules x, int call) {
        switch (call) {
            case 0: return x.tensor(TRUTHS);
            case 1: return x.shaped(TRUTHS, 1, NONE, NONE);
            case 2: return x.act(8, 0, 0);
            case 3: return x.one(7, 0);
            case 4: return x.cast(0, TRUTHS);
            default: return x.where(0, 0, 0);
        }
    }

    // "numbered from 0": the numbers go on across the calls, and over what is GONE.
    private static void numberedFromZero() {
        SpreadRules x = new SpreadRules();
        due("no TENSOR yet", x.of(0, 0), BAD);
        for (int call = 0; call < 6; call++) {
            due("numbered from 0", makeBy(x, call), call);
        }
        x.free(5);
        due("numbered on", makeBy(x, 0), 6);
        due("no TENSOR -1", x.of(-1, 0), BAD);
        due("no TENSOR 7", x.of(7, 0), BAD);
        due("no TENSOR of the least number", x.of(MIN, 0), BAD);
        due("no TENSOR of the greatest number", x.of(MAX, 0), BAD);
    }

    // "0 TRUTHS, 1 BYTES, 2 INTS, 3 LONGS, 4 FLOATS, 5 DOUBLES"
    private static void lanesZeroToFive() {
        for (int lane = TRUTHS; lane <= DOUBLES; lane++) {
            SpreadRules x = new SpreadRules();
            due("LANE of tensor", x.tensor(lane), 0);
            due("LANE of shaped", x.shaped(lane, 1, NONE, NONE), 1);
            due("LANE of bits", x.bits(0, 0, lane), 0);
            due("LANE of cast", x.cast(0, lane), 2);
            for (int t = 0; t < 3; t++) {
                due("LANE", x.of(t, 0), lane);
            }
        }
        for (int lane : new int[] {-1, 6, MIN, MAX}) {
            SpreadRules x = new SpreadRules();
            x.tensor(TRUTHS);
            due("no LANE of tensor", x.tensor(lane), BAD);
            due("no LANE of shaped", x.shaped(lane, 1, NONE, NONE), BAD);
            due("no LANE of bits", x.bits(0, 0, lane), BAD);
            due("no LANE of cast", x.cast(0, lane), BAD);
            due("BAD makes none", x.count(0), 1);
            due("BAD is no FAILURE", x.count(3), 0);
        }
    }

    // "0 to 3 EXTENTS"
    private static void upToThreeExtents() {
        SpreadRules x = new SpreadRules();
        x.tensor(INTS);
        x.shaped(INTS, 2, NONE, NONE);
        x.shaped(INTS, 2, 3, NONE);
        x.shaped(INTS, 2, 3, 4);
        dueExtents("0 EXTENTS", x, 0);
        dueExtents("1 EXTENT", x, 1, 2);
        dueExtents("2 EXTENTS", x, 2, 2, 3);
        dueExtents("3 EXTENTS", x, 3, 2, 3, 4);
        due("the second one left out, the third one not", x.shaped(INTS, 2, NONE, 4), BAD);
        due("the second one left out, the third one 0", x.shaped(INTS, 2, NONE, 0), BAD);
        due("the second one left out, the third one below 0", x.shaped(INTS, 2, NONE, -1), BAD);
        due("the first one cannot be left out", x.shaped(INTS, NONE, NONE, NONE), BELOW_ZERO);
        due("the first one cannot be left out", x.shaped(INTS, NONE, 3, 4), BELOW_ZERO);
    }

    // "EXTENTS of .. 60": 60 is one, 61 is BAD, in each place.
    private static void extentsUpToSixty() {
        SpreadRules x = new SpreadRules();
        due("60", x.shaped(INTS, 60, NONE, NONE), 0);
        due("60, 4", x.shaped(INTS, 60, 4, NONE), 1);
        due("4, 60", x.shaped(INTS, 4, 60, NONE), 2);
        due("1, 4, 60", x.shaped(INTS, 1, 4, 60), 3);
        dueExtents("60", x, 0, 60);
        dueExtents("1, 4, 60", x, 3, 1, 4, 60);
        for (int above : new int[] {61, 240, MAX}) {
            due("first above 60", x.shaped(INTS, above, NONE, NONE), BAD);
            due("first above 60", x.shaped(INTS, above, 0, 0), BAD);
            due("second above 60", x.shaped(INTS, 0, above, NONE), BAD);
            due("third above 60", x.shaped(INTS, 0, 0, above), BAD);
        }
        due("above 60 is no FAILURE", x.count(3), 0);
        due("above 60 makes none", x.count(0), 4);
    }

    // "EXTENTS of 0 .."; "3 an EXTENT is below 0"
    private static void extentsFromZero() {
        SpreadRules x = new SpreadRules();
        due("0", x.shaped(INTS, 0, NONE, NONE), 0);
        due("0, 0", x.shaped(INTS, 0, 0, NONE), 1);
        due("0, 0, 0", x.shaped(INTS, 0, 0, 0), 2);
        dueExtents("0, 0, 0", x, 2, 0, 0, 0);
        int failures = 0;
        for (int below : new int[] {-1, -2, -4, MIN}) {
            dueFailure("first below 0", x, failures++, x.shaped(INTS, below, NONE, NONE), BELOW_ZERO, NONE);
            dueFailure("second below 0", x, failures++, x.shaped(INTS, 0, below, NONE), BELOW_ZERO, NONE);
            dueFailure("third below 0", x, failures++, x.shaped(INTS, 0, 0, below), BELOW_ZERO, NONE);
        }
        due("below 0 makes none", x.count(0), 3);
    }

    // "as many ITEMS as their product": the last one can be read and set, the next one not.
    private static void itemsAreTheProduct() {
        int[][] shapes = {{}, {1}, {60}, {2, 3}, {5, 7}, {2, 3, 4}, {1, 1, 1}, {4, 6, 10}};
        for (int[] e : shapes) {
            SpreadRules x = new SpreadRules();
            int items = 1;
            for (int extent : e) {
                items *= extent;
            }
            extents(x, BYTES, e);
            due("ITEMS", x.of(0, 2), items);
            due("the last ITEM", x.item(0, items - 1, 5), 1);
            due("the last ITEM", x.bits(0, items - 1, BYTES), 5);
            due("beyond the last ITEM", x.item(0, items, 5), NO_ITEM);
            due("beyond the last ITEM", x.bits(0, items, BYTES), NO_ITEM);
            due("before the first ITEM", x.item(0, -1, 5), NO_ITEM);
            due("before the first ITEM", x.bits(0, -1, BYTES), NO_ITEM);
        }
    }

    // "(1 without EXTENTS)"
    private static void oneItemWithoutExtents() {
        SpreadRules x = new SpreadRules();
        x.tensor(LONGS);
        due("without EXTENTS", x.of(0, 2), 1);
        due("its ITEM", x.item(0, 0, 7), 1);
        due("its ITEM", x.bits(0, 0, LONGS), 7);
        due("another one", x.item(0, 1, 7), NO_ITEM);
        due("its number", x.index(0, 0, 0, 0), 0);
    }

    // "240 at most": 242 is the next product that there is.
    private static void at240ItemsItEnds() {
        int[][] last = {{4, 60, NONE}, {60, 4, NONE}, {4, 6, 10}, {60, 2, 2}, {1, 60, 4}, {15, 16, NONE}};
        SpreadRules x = new SpreadRules();
        for (int[] e : last) {
            due("240 ITEMS", x.of(x.shaped(BYTES, e[0], e[1], e[2]), 2), 240);
        }
        due("the last ITEM", x.bits(0, 239, BYTES), 0);
        due("beyond it", x.bits(0, 240, BYTES), NO_ITEM);
        int[][] first = {{22, 11, NONE}, {11, 22, NONE}, {2, 11, 11}, {11, 11, 2}, {3, 9, 9}, {60, 5, NONE}, {60, 60, NONE}, {60, 60, 60}};
        int failures = 1;
        for (int[] e : first) {
            dueFailure("above 240 ITEMS", x, failures++, x.shaped(BYTES, e[0], e[1], e[2]), OTHER_EXTENTS, NONE);
        }
        due("above 240 ITEMS makes none", x.count(0), last.length);
        actsUpTo240();
    }

    private static void actsUpTo240() {
        SpreadRules x = new SpreadRules();
        x.shaped(TRUTHS, 60, 1, NONE);
        x.shaped(TRUTHS, 4, NONE, NONE);
        x.shaped(TRUTHS, 5, NONE, NONE);
        x.shaped(TRUTHS, 22, 1, NONE);
        x.shaped(TRUTHS, 11, NONE, NONE);
        due("act: 240 ITEMS", x.of(x.act(8, 0, 1), 2), 240);
        due("where: 240 ITEMS", x.of(x.where(1, 0, 0), 2), 240);
        dueFailure("act: 242 ITEMS", x, 0, x.act(8, 3, 4), OTHER_EXTENTS, NONE);
        dueFailure("act: 242 ITEMS", x, 1, x.act(8, 4, 3), OTHER_EXTENTS, NONE);
        dueFailure("act: 300 ITEMS", x, 2, x.act(8, 0, 2), OTHER_EXTENTS, NONE);
        dueFailure("into: 242 ITEMS", x, 3, x.into(8, 3, 4, 0), OTHER_EXTENTS, NONE);
        dueFailure("where: 242 ITEMS of a and b", x, 4, x.where(4, 3, 4), OTHER_EXTENTS, NONE);
        dueFailure("where: 242 ITEMS with the mask", x, 5, x.where(4, 3, 3), OTHER_EXTENTS, NONE);
        due("where: 240 ITEMS stay", x.of(6, 2), 240);
    }

    // "none where an EXTENT is 0"
    private static void noItemsWhereAnExtentIsZero() {
        int[][] shapes = {{0}, {0, 60}, {60, 0}, {0, 60, 60}, {60, 0, 60}, {60, 60, 0}, {0, 0, 0}};
        for (int[] e : shapes) {
            SpreadRules x = new SpreadRules();
            due("an EXTENT of 0", extents(x, INTS, e), 0);
            dueExtents("an EXTENT of 0", x, 0, e);
            due("no ITEMS", x.of(0, 2), 0);
            due("no ITEM 0", x.item(0, 0, 1), NO_ITEM);
            due("no ITEM 0", x.bits(0, 0, INTS), NO_ITEM);
            due("no indices", x.index(0, 0, 0, 0), NO_ITEM);
            due("act by 0 on nothing", x.act(4, 0, 0), 1);
            dueExtents("act on nothing", x, 1, e);
            due("one of nothing", x.one(0, 0), 2);
            dueExtents("one of nothing", x, 2, e);
            due("cast of nothing", x.cast(0, TRUTHS), 3);
            dueExtents("cast of nothing", x, 3, e);
            due("where of nothing", x.where(3, 0, 1), 4);
            dueExtents("where of nothing", x, 4, e);
            due("into nothing", x.into(4, 0, 0, 1), 1);
            due("copy of nothing", x.copy(0, 0, 1, 0, 0), 0);
            due("copy of one of nothing", x.copy(0, 0, 1, 0, 1), NO_ITEM);
            due("same of nothing", x.same(0, 1), 1);
            due("nothing was MISSING", x.count(2), 0);
        }
    }

    /** Every row of EXTENTS from below 0 to above 60, against the sentences once more. */
    private static void everyShape() {
        SpreadRules x = new SpreadRules();
        int calls = 0;
        for (int a = -4; a <= 61; a++) {
            for (int b = -4; b <= 61; b++) {
                for (int c = -4; c <= 61; c++) {
                    if (calls++ > 400 || x.count(0) == 16) {
                        x = new SpreadRules();
                        calls = 1;
                    }
                    int next = x.count(0);
                    due("shaped " + a + ", " + b + ", " + c, x.shaped(BYTES, a, b, c), shapedDue(a, b, c, next));
                    calls++;
                }
            }
        }
    }

    private static int shapedDue(int a, int b, int c, int next) {
        if (a > 60 || b > 60 || c > 60 || b == NONE && c != NONE) {
            return BAD;
        }
        if (a < 0 || b < 0 && b != NONE || c < 0 && c != NONE) {
            return BELOW_ZERO;
        }
        return a * (b == NONE ? 1 : b) * (c == NONE ? 1 : c) > 240 ? OTHER_EXTENTS : next;
    }

    // "all 0 (false) at first": also after acts that had other results.
    private static void allZeroAtFirst() {
        for (int lane = TRUTHS; lane <= DOUBLES; lane++) {
            SpreadRules x = new SpreadRules();
            row(x, lane, 1, 1, 1, 1, 1, 1);
            x.cast(0, lane);
            dueRow("after a cast", x, x.shaped(lane, 6, NONE, NONE), lane, 0, 0, 0, 0, 0, 0);
            x.act(9, 0, 0);
            dueRow("after an act", x, x.tensor(lane), lane, 0);
            dueRow("after an act", x, x.shaped(lane, 2, 3, 1), lane, 0, 0, 0, 0, 0, 0);
        }
        SpreadRules x = new SpreadRules();
        int t = x.shaped(INTS, 60, 4, NONE);
        for (int n = 0; n < 240; n++) {
            due("0 at first", x.bits(t, n, INTS), 0);
        }
    }

    // "numbered so that the last EXTENT's index runs first"
    private static void lastIndexRunsFirst() {
        SpreadRules x = new SpreadRules();
        x.shaped(INTS, 2, 3, 4);
        due("first", x.index(0, 0, 0, 0), 0);
        due("the last EXTENT's index", x.index(0, 0, 0, 1), 1);
        due("at its end", x.index(0, 0, 0, 3), 3);
        due("then the middle one's", x.index(0, 0, 1, 0), 4);
        due("at its end", x.index(0, 0, 2, 3), 11);
        due("then the first one's", x.index(0, 1, 0, 0), 12);
        due("the end", x.index(0, 1, 2, 3), 23);
        x.shaped(INTS, 60, 4, NONE);
        due("of two", x.index(1, 0, 3, 0), 3);
        due("of two", x.index(1, 1, 0, 0), 4);
        due("of two, the end", x.index(1, 59, 3, 0), 239);
    }

    // "A TENSOR may be GONE": every call that takes a TENSOR FAILS then, wherever it takes it.
    private static void goneFromEachCall() {
        SpreadRules x = new SpreadRules();
        x.tensor(TRUTHS);
        x.tensor(TRUTHS);
        x.free(1);
        long[] answers = {
            x.free(1), x.item(1, 0, 0), x.bits(1, 0, TRUTHS), x.index(1, 0, 0, 0), x.of(1, 0), x.of(1, 5), x.act(0, 1, 0), x.act(0, 0, 1),
            x.into(8, 1, 0, 0), x.into(8, 0, 1, 0), x.into(8, 0, 0, 1), x.one(0, 1), x.cast(1, 0), x.where(1, 0, 0), x.where(0, 1, 0),
            x.where(0, 0, 1), x.copy(1, 0, 0, 0, 0), x.copy(0, 0, 1, 0, 0), x.same(1, 0), x.same(0, 1), x.same(1, 1)};
        for (int n = 0; n < answers.length; n++) {
            due("GONE, call " + n, answers[n], GONE);
        }
        due("GONE: FAILURES", x.count(3), answers.length);
        due("GONE: PLACE", x.place(), NONE);
        due("GONE: TENSORS", x.count(0), 2);
        due("GONE: the other one stays", x.free(0), 1);
    }

    // "VALUES are told as longs: TRUTHS 1, 0; BYTES to LONGS the number; FLOATS their 32 bits as a number with sign"
    private static void truthsAreTold() {
        SpreadRules x = new SpreadRules();
        x.tensor(TRUTHS);
        x.item(0, 0, -1);
        due("true is told as 1", x.bits(0, 0, TRUTHS), 1);
        x.tensor(BYTES);
        x.item(1, 0, 0x80);
        due("a BYTE below 0", x.bits(1, 0, BYTES), -128);
        x.tensor(FLOATS);
        x.item(2, 0, 0x80000000L);
        due("-0.0 of FLOATS has a sign", x.bits(2, 0, FLOATS), MIN);
        x.item(2, 0, f(-1));
        due("-1.0 of FLOATS has a sign", x.bits(2, 0, FLOATS), 0xffffffffbf800000L);
        x.item(2, 0, 0x7f7fffffL);
        due("the greatest of FLOATS has none", x.bits(2, 0, FLOATS), 0x7f7fffffL);
        x.tensor(DOUBLES);
        x.item(3, 0, Long.MIN_VALUE);
        due("-0.0 of DOUBLES", x.bits(3, 0, DOUBLES), Long.MIN_VALUE);
    }

    // "(all that are no number as 7fc00000, 7ff8000000000000, hexadecimal)": right beside what is infinite they begin.
    private static void noNumberIsToldOneWay() {
        SpreadRules x = new SpreadRules();
        x.tensor(FLOATS);
        x.tensor(DOUBLES);
        for (long bits : new long[] {0x7f800000L, 0xff800000L}) {
            x.item(0, 0, bits);
            due("infinite FLOAT", x.bits(0, 0, FLOATS), (int) bits);
        }
        for (long bits : new long[] {0x7f800001L, 0x7fffffffL, 0xff800001L, 0xffffffffL, 0xffc00000L, 0x7fc00001L, -1, 0x57fc00000L}) {
            x.item(0, 0, bits);
            due("no FLOAT number", x.bits(0, 0, FLOATS), 0x7fc00000L);
        }
        for (long bits : new long[] {0x7ff0000000000000L, 0xfff0000000000000L}) {
            x.item(1, 0, bits);
            due("infinite DOUBLE", x.bits(1, 0, DOUBLES), bits);
        }
        for (long bits : new long[] {0x7ff0000000000001L, Long.MAX_VALUE, 0xfff0000000000001L, -1, 0xfff8000000000000L, 0x7ff8000000000001L}) {
            x.item(1, 0, bits);
            due("no DOUBLE number", x.bits(1, 0, DOUBLES), 0x7ff8000000000000L);
        }
        resultsThatAreNoNumber();
    }

    private static void resultsThatAreNoNumber() {
        for (int lane = FLOATS; lane <= DOUBLES; lane++) {
            long no = told(lane, NO_NUMBER);
            SpreadRules x = new SpreadRules();
            row(x, lane, told(lane, 0), told(lane, INFINITE), lane == FLOATS ? 0xff800001L : 0xfff0000000000001L);
            dueRow("a sum of no number", x, x.act(0, 0, 0), lane, 0, told(lane, INFINITE), no);
            dueRow("a difference that is none", x, x.act(1, 0, 0), lane, 0, no, no);
            dueRow("a quotient that is none", x, x.act(3, 0, 0), lane, no, no, no);
            dueRow("the other sign of no number", x, x.one(0, 0), lane, told(lane, -0.0), told(lane, -INFINITE), no);
            dueRow("the size of no number", x, x.one(1, 0), lane, 0, told(lane, INFINITE), no);
            int other = lane == FLOATS ? DOUBLES : FLOATS;
            dueRow("no number in the other LANE", x, x.cast(0, other), other, 0, told(other, INFINITE), told(other, NO_NUMBER));
        }
    }

    // "A VALUE that is given counts by its lowest bits (1, 8, 32, 64, 32, 64)."
    private static void givenByLowestBits() {
        long above = 1L << 32;
        long[][] given = {
            {TRUTHS, 0, 0}, {TRUTHS, 1, 1}, {TRUTHS, 2, 0}, {TRUTHS, 3, 1}, {TRUTHS, -1, 1}, {TRUTHS, -2, 0}, {TRUTHS, Long.MIN_VALUE, 0},
            {BYTES, 127, 127}, {BYTES, 128, -128}, {BYTES, 255, -1}, {BYTES, 256, 0}, {BYTES, -128, -128}, {BYTES, -129, 127}, {BYTES, -256, 0},
            {INTS, MAX, MAX}, {INTS, MAX + 1L, MIN}, {INTS, above - 1, -1}, {INTS, above, 0}, {INTS, MIN, MIN}, {INTS, MIN - 1L, MAX},
            {LONGS, Long.MAX_VALUE, Long.MAX_VALUE}, {LONGS, Long.MIN_VALUE, Long.MIN_VALUE}, {LONGS, above, above},
            {FLOATS, 1, 1}, {FLOATS, above, 0}, {FLOATS, above + f(1), f(1)}, {FLOATS, above / 2, MIN}, {FLOATS, f(-2), f(-2)},
            {FLOATS, f(-2) & (above - 1), f(-2)}, {FLOATS, Long.MIN_VALUE, 0},
            {DOUBLES, 1, 1}, {DOUBLES, Long.MIN_VALUE, Long.MIN_VALUE}, {DOUBLES, above, above}, {DOUBLES, d(-2), d(-2)}};
        for (long[] g : given) {
            SpreadRules x = new SpreadRules();
            int lane = (int) g[0];
            x.tensor(lane);
            due("item", x.item(0, 0, g[1]), 1);
            due(g[1] + " given to LANE " + lane, x.bits(0, 0, lane), g[2]);
        }
    }

    // "A VALUE goes TO a LANE: from TRUTHS: 1, 0"
    private static void fromTruths() {
        for (int lane = TRUTHS; lane <= DOUBLES; lane++) {
            dueTo("from TRUTHS", TRUTHS, 0, lane, 0);
            dueTo("from TRUTHS", TRUTHS, 1, lane, told(lane, 1));
        }
    }

    // "TO TRUTHS: whether it is not 0 (of no number: true)"
    private static void toTruths() {
        for (int lane = TRUTHS; lane <= LONGS; lane++) {
            dueTo("TO TRUTHS", lane, 0, TRUTHS, 0);
            dueTo("TO TRUTHS", lane, 1, TRUTHS, 1);
        }
        for (int lane = BYTES; lane <= LONGS; lane++) {
            dueTo("TO TRUTHS", lane, -1, TRUTHS, 1);
            dueTo("TO TRUTHS, not by the lowest bit", lane, 2, TRUTHS, 1);
            dueTo("TO TRUTHS, not by the lowest bit", lane, LEAST[lane], TRUTHS, 1);
        }
        dueTo("TO TRUTHS, not by the lowest bits", LONGS, 1L << 32, TRUTHS, 1);
        dueTo("TO TRUTHS, not by the lowest bits", INTS, 256, TRUTHS, 1);
        for (int lane = FLOATS; lane <= DOUBLES; lane++) {
            dueTo("0.0 TO TRUTHS", lane, 0, TRUTHS, 0);
            dueTo("-0.0 TO TRUTHS", lane, told(lane, -0.0), TRUTHS, 0);
            dueTo("the least above 0 TO TRUTHS", lane, 1, TRUTHS, 1);
            dueTo("the greatest below 0 TO TRUTHS", lane, told(lane, -0.0) + 1, TRUTHS, 1);
            dueTo("0.5 TO TRUTHS", lane, told(lane, 0.5), TRUTHS, 1);
            dueTo("infinite TO TRUTHS", lane, told(lane, -INFINITE), TRUTHS, 1);
            dueTo("no number TO TRUTHS", lane, told(lane, NO_NUMBER), TRUTHS, 1);
        }
    }

    // "whole ones to narrower whole ones by their lowest bits"
    private static void wholesToNarrowerWholes() {
        long[][] cases = {
            {INTS, 127, BYTES, 127}, {INTS, 128, BYTES, -128}, {INTS, 255, BYTES, -1}, {INTS, 256, BYTES, 0}, {INTS, -128, BYTES, -128},
            {INTS, -129, BYTES, 127}, {INTS, MIN, BYTES, 0}, {INTS, MAX, BYTES, -1},
            {LONGS, 128, BYTES, -128}, {LONGS, -129, BYTES, 127}, {LONGS, Long.MAX_VALUE, BYTES, -1}, {LONGS, Long.MIN_VALUE, BYTES, 0},
            {LONGS, MAX, INTS, MAX}, {LONGS, MAX + 1L, INTS, MIN}, {LONGS, MIN, INTS, MIN}, {LONGS, MIN - 1L, INTS, MAX},
            {LONGS, 1L << 32, INTS, 0}, {LONGS, Long.MAX_VALUE, INTS, -1}, {LONGS, Long.MIN_VALUE, INTS, 0}};
        for (long[] c : cases) {
            dueTo("whole to narrower", (int) c[0], c[1], (int) c[2], c[3]);
        }
    }

    private static void wholesToWiderWholes() {
        for (int from = BYTES; from <= LONGS; from++) {
            for (int to = from; to <= LONGS; to++) {
                dueTo("whole to wider", from, LEAST[from], to, LEAST[from]);
                dueTo("whole to wider", from, GREATEST[from], to, GREATEST[from]);
                dueTo("whole to wider", from, -1, to, -1);
            }
        }
    }

    // "FLOATS, DOUBLES to whole ones cut towards 0"
    private static void realsAreCut() {
        for (int from = FLOATS; from <= DOUBLES; from++) {
            double belowOne = from == FLOATS ? Math.nextDown(1f) : Math.nextDown(1.0);
            for (int to = BYTES; to <= LONGS; to++) {
                dueTo("-0.0 cut", from, told(from, -0.0), to, 0);
                dueTo("cut below 1", from, told(from, belowOne), to, 0);
                dueTo("cut at 1", from, told(from, 1), to, 1);
                dueTo("cut above -1", from, told(from, -belowOne), to, 0);
                dueTo("cut at -1", from, told(from, -1), to, -1);
                dueTo("cut below 2", from, told(from, 1 + belowOne / 2), to, 1);
                dueTo("cut", from, told(from, -1.5), to, -1);
                dueTo("the least above 0 cut", from, 1, to, 0);
            }
        }
    }

    // "the nearest that INTS (for BYTES, too, and then the lowest bits) .. have"
    private static void realsToBytes() {
        for (int from = FLOATS; from <= DOUBLES; from++) {
            dueTo("last BYTE", from, told(from, 127.9375), BYTES, 127);
            dueTo("beyond BYTES", from, told(from, 128), BYTES, -128);
            dueTo("last BYTE below", from, told(from, -128.9375), BYTES, -128);
            dueTo("beyond BYTES below", from, told(from, -129), BYTES, 127);
            dueTo("255", from, told(from, 255), BYTES, -1);
            dueTo("256", from, told(from, 256), BYTES, 0);
            dueTo("beyond INTS by way of the greatest", from, told(from, 0x1p31), BYTES, -1);
            dueTo("not by way of LONGS", from, told(from, 0x1p32), BYTES, -1);
            dueTo("beyond INTS by way of the least", from, told(from, -0x1p32), BYTES, 0);
            dueTo("infinite", from, told(from, INFINITE), BYTES, -1);
            dueTo("infinite below", from, told(from, -INFINITE), BYTES, 0);
        }
        dueTo("the greatest INT", DOUBLES, d(MAX), BYTES, -1);
        dueTo("one less", DOUBLES, d(MAX - 1.0), BYTES, -2);
        dueTo("one above the least INT", DOUBLES, d(MIN + 1.0), BYTES, 1);
        dueTo("one below the least INT", DOUBLES, d(MIN - 1.0), BYTES, 0);
    }

    private static void realsToInts() {
        dueTo("the greatest INT", DOUBLES, d(2147483647.0), INTS, MAX);
        dueTo("and a bit", DOUBLES, d(Math.nextDown(0x1p31)), INTS, MAX);
        dueTo("one less", DOUBLES, d(2147483646.0), INTS, MAX - 1);
        dueTo("a bit below it", DOUBLES, d(Math.nextDown(2147483647.0)), INTS, MAX - 1);
        dueTo("beyond", DOUBLES, d(0x1p31), INTS, MAX);
        dueTo("the least INT", DOUBLES, d(-0x1p31), INTS, MIN);
        dueTo("and a bit", DOUBLES, d(-2147483648.5), INTS, MIN);
        dueTo("beyond", DOUBLES, d(-2147483649.0), INTS, MIN);
        dueTo("one more", DOUBLES, d(-2147483647.5), INTS, MIN + 1);
        dueTo("the last FLOAT within INTS", FLOATS, f(Math.nextDown(0x1p31f)), INTS, MAX - 127);
        dueTo("the first FLOAT beyond", FLOATS, f(0x1p31), INTS, MAX);
        dueTo("the last FLOAT within INTS below", FLOATS, f(-0x1p31), INTS, MIN);
        dueTo("the first FLOAT beyond below", FLOATS, f(Math.nextDown(-0x1p31f)), INTS, MIN);
        for (int from = FLOATS; from <= DOUBLES; from++) {
            dueTo("infinite", from, told(from, INFINITE), INTS, MAX);
            dueTo("infinite below", from, told(from, -INFINITE), INTS, MIN);
            dueTo("beyond LONGS, too", from, told(from, 1e30), INTS, MAX);
            dueTo("beyond LONGS, too, below", from, told(from, -1e30), INTS, MIN);
        }
    }

    private static void realsToLongs() {
        dueTo("the last DOUBLE within LONGS", DOUBLES, d(Math.nextDown(0x1p63)), LONGS, Long.MAX_VALUE - 1023);
        dueTo("the first DOUBLE beyond", DOUBLES, d(0x1p63), LONGS, Long.MAX_VALUE);
        dueTo("the next one", DOUBLES, d(Math.nextUp(0x1p63)), LONGS, Long.MAX_VALUE);
        dueTo("the last DOUBLE within LONGS below", DOUBLES, d(-0x1p63), LONGS, Long.MIN_VALUE);
        dueTo("the first DOUBLE beyond below", DOUBLES, d(Math.nextDown(-0x1p63)), LONGS, Long.MIN_VALUE);
        dueTo("the next to last one below", DOUBLES, d(Math.nextUp(-0x1p63)), LONGS, Long.MIN_VALUE + 1024);
        dueTo("beyond INTS", DOUBLES, d(2147483648.5), LONGS, 2147483648L);
        dueTo("beyond INTS below", DOUBLES, d(-2147483649.5), LONGS, -2147483649L);
        dueTo("the last DOUBLE with a half", DOUBLES, d(0x1p52 - 0.5), LONGS, (1L << 52) - 1);
        dueTo("the last FLOAT within LONGS", FLOATS, f(Math.nextDown(0x1p63f)), LONGS, Long.MAX_VALUE - (1L << 39) + 1);
        dueTo("the first FLOAT beyond", FLOATS, f(0x1p63), LONGS, Long.MAX_VALUE);
        dueTo("the last FLOAT within LONGS below", FLOATS, f(-0x1p63), LONGS, Long.MIN_VALUE);
        dueTo("the first FLOAT beyond below", FLOATS, f(Math.nextDown(-0x1p63f)), LONGS, Long.MIN_VALUE);
        for (int from = FLOATS; from <= DOUBLES; from++) {
            dueTo("infinite", from, told(from, INFINITE), LONGS, Long.MAX_VALUE);
            dueTo("infinite below", from, told(from, -INFINITE), LONGS, Long.MIN_VALUE);
        }
    }

    // "0 of no number"
    private static void noNumberToWholes() {
        for (int to = BYTES; to <= LONGS; to++) {
            dueTo("no number", FLOATS, f(NO_NUMBER), to, 0);
            dueTo("no number", DOUBLES, d(NO_NUMBER), to, 0);
            dueTo("no number, given otherwise", FLOATS, 0xffffffffL, to, 0);
            dueTo("no number, given otherwise", DOUBLES, -1, to, 0);
        }
    }

    // "to FLOATS, DOUBLES the nearest (of two as near the one whose last bit is 0 ..)": of whole numbers
    private static void wholesToTheNearestReal() {
        long p24 = 1L << 24;
        long p53 = 1L << 53;
        dueTo("exact", INTS, p24, FLOATS, f(0x1p24));
        dueTo("as near, down", INTS, p24 + 1, FLOATS, f(0x1p24));
        dueTo("exact", INTS, p24 + 2, FLOATS, f(0x1p24 + 2));
        dueTo("as near, up", INTS, p24 + 3, FLOATS, f(0x1p24 + 4));
        dueTo("as near below 0", INTS, -p24 - 1, FLOATS, f(-0x1p24));
        dueTo("as near below 0", INTS, -p24 - 3, FLOATS, f(-0x1p24 - 4));
        dueTo("the greatest INT", INTS, MAX, FLOATS, f(0x1p31));
        dueTo("the least INT", INTS, MIN, FLOATS, f(-0x1p31));
        dueTo("INTS to DOUBLES exactly", INTS, MAX, DOUBLES, d(2147483647.0));
        dueTo("INTS to DOUBLES exactly", INTS, MIN, DOUBLES, d(-2147483648.0));
        dueTo("exact", LONGS, p53, DOUBLES, d(0x1p53));
        dueTo("as near, down", LONGS, p53 + 1, DOUBLES, d(0x1p53));
        dueTo("exact", LONGS, p53 + 2, DOUBLES, d(0x1p53 + 2));
        dueTo("as near, up", LONGS, p53 + 3, DOUBLES, d(0x1p53 + 4));
        dueTo("as near below 0", LONGS, -p53 - 1, DOUBLES, d(-0x1p53));
        dueTo("as near below 0", LONGS, -p53 - 3, DOUBLES, d(-0x1p53 - 4));
        dueTo("the greatest LONG", LONGS, Long.MAX_VALUE, DOUBLES, d(0x1p63));
        dueTo("the last one below it", LONGS, Long.MAX_VALUE - 512, DOUBLES, d(Math.nextDown(0x1p63)));
        dueTo("as near", LONGS, Long.MAX_VALUE - 511, DOUBLES, d(0x1p63));
        dueTo("the least LONG", LONGS, Long.MIN_VALUE, DOUBLES, d(-0x1p63));
        for (int to = FLOATS; to <= DOUBLES; to++) {
            for (int from = BYTES; from <= LONGS; from++) {
                dueTo("0 has no sign", from, 0, to, 0);
                dueTo("small ones exactly", from, -128, to, told(to, -128));
                dueTo("small ones exactly", from, 1, to, told(to, 1));
            }
        }
    }

    // Rounded "the nearest" once: by way of DOUBLES the first of these would be as near to both.
    private static void longsToFloatsOnce() {
        long tie = (1L << 60) + (1L << 36);
        dueTo("just above as near", LONGS, tie + 1, FLOATS, f(0x1.000002p60));
        dueTo("as near", LONGS, tie, FLOATS, f(0x1p60));
        dueTo("just below as near", LONGS, tie - 1, FLOATS, f(0x1p60));
        long next = (1L << 60) + 3 * (1L << 36);
        dueTo("just below as near", LONGS, next - 1, FLOATS, f(0x1.000002p60));
        dueTo("as near", LONGS, next, FLOATS, f(0x1.000004p60));
        dueTo("below 0", LONGS, -tie - 1, FLOATS, f(-0x1.000002p60));
        dueTo("the greatest LONG", LONGS, Long.MAX_VALUE, FLOATS, f(0x1p63));
        dueTo("the least LONG", LONGS, Long.MIN_VALUE, FLOATS, f(-0x1p63));
        dueTo("the last one below 2 to the 63", LONGS, Long.MAX_VALUE - (1L << 38), FLOATS, f(Math.nextDown(0x1p63f)));
        dueTo("as near", LONGS, Long.MAX_VALUE - (1L << 38) + 1, FLOATS, f(0x1p63));
    }

    private static void doublesToTheNearestFloat() {
        double half = 0x1p-24;
        dueTo("as near, down", DOUBLES, d(1 + half), FLOATS, f(1));
        dueTo("just above as near", DOUBLES, d(Math.nextUp(1 + half)), FLOATS, f(1 + 2 * half));
        dueTo("just below as near", DOUBLES, d(Math.nextDown(1 + half)), FLOATS, f(1));
        dueTo("as near, up", DOUBLES, d(1 + 3 * half), FLOATS, f(1 + 4 * half));
        dueTo("just below as near", DOUBLES, d(Math.nextDown(1 + 3 * half)), FLOATS, f(1 + 2 * half));
        dueTo("as near below 0", DOUBLES, d(-1 - half), FLOATS, f(-1));
        dueTo("as near below 0", DOUBLES, d(-1 - 3 * half), FLOATS, f(-1 - 4 * half));
        dueTo("carried to the next power", DOUBLES, d(Math.nextDown(2.0)), FLOATS, f(2));
        dueTo("zeros keep their signs", DOUBLES, d(-0.0), FLOATS, f(-0.0));
        dueTo("zeros keep their signs", DOUBLES, 0, FLOATS, 0);
    }

    // "beyond all of them infinite"
    private static void doublesBeyondAllFloats() {
        double greatest = Float.MAX_VALUE;
        double halfStep = 0x1p103;
        dueTo("the greatest", DOUBLES, d(greatest), FLOATS, f(greatest));
        dueTo("the last one nearest to it", DOUBLES, d(Math.nextDown(greatest + halfStep)), FLOATS, f(greatest));
        dueTo("beyond", DOUBLES, d(greatest + halfStep), FLOATS, f(INFINITE));
        dueTo("far beyond", DOUBLES, d(Double.MAX_VALUE), FLOATS, f(INFINITE));
        dueTo("the last one below 0", DOUBLES, d(-Math.nextDown(greatest + halfStep)), FLOATS, f(-greatest));
        dueTo("beyond below 0", DOUBLES, d(-greatest - halfStep), FLOATS, f(-INFINITE));
        dueTo("infinite", DOUBLES, d(INFINITE), FLOATS, f(INFINITE));
        dueTo("infinite below 0", DOUBLES, d(-INFINITE), FLOATS, f(-INFINITE));
        dueTo("no number", DOUBLES, d(NO_NUMBER), FLOATS, 0x7fc00000L);
    }

    private static void doublesBelowAllFloats() {
        dueTo("the least FLOAT", DOUBLES, d(0x1p-149), FLOATS, 1);
        dueTo("just above half of it", DOUBLES, d(Math.nextUp(0x1p-150)), FLOATS, 1);
        dueTo("half of it", DOUBLES, d(0x1p-150), FLOATS, 0);
        dueTo("one and a half of it", DOUBLES, d(0x1.8p-149), FLOATS, 2);
        dueTo("two and a half of it", DOUBLES, d(0x1.4p-148), FLOATS, 2);
        dueTo("half of it, below 0", DOUBLES, d(-0x1p-150), FLOATS, f(-0.0));
        dueTo("just above half of it, below 0", DOUBLES, d(-Math.nextUp(0x1p-150)), FLOATS, f(-0x1p-149));
        dueTo("the least DOUBLE", DOUBLES, 1, FLOATS, 0);
        dueTo("the least DOUBLE below 0", DOUBLES, d(-Double.MIN_VALUE), FLOATS, f(-0.0));
        dueTo("the least with all its bits", DOUBLES, d(0x1p-126), FLOATS, 0x00800000L);
        dueTo("just below it", DOUBLES, d(Math.nextDown(0x1p-126)), FLOATS, 0x00800000L);
        dueTo("the last one with fewer", DOUBLES, d(0x1p-126 - 0x1p-149), FLOATS, 0x007fffffL);
        dueTo("as near to both", DOUBLES, d(0x1p-126 - 0x1p-150), FLOATS, 0x00800000L);
        dueTo("just below that", DOUBLES, d(Math.nextDown(0x1p-126 - 0x1p-150)), FLOATS, 0x007fffffL);
    }

    private static void floatsToDoubles() {
        float[] all = {Float.MIN_VALUE, Math.nextDown(Float.MIN_NORMAL), Float.MIN_NORMAL, 1, 0.1f, Float.MAX_VALUE, Float.POSITIVE_INFINITY};
        for (float v : all) {
            dueTo("exactly", FLOATS, f(v), DOUBLES, d(v));
            dueTo("exactly", FLOATS, f(-v), DOUBLES, d(-v));
        }
        dueTo("zeros keep their signs", FLOATS, f(-0.0), DOUBLES, d(-0.0));
        dueTo("no number", FLOATS, f(NO_NUMBER), DOUBLES, d(NO_NUMBER));
    }

    // "JOINED LANES: the greater one; but INTS or LONGS with FLOATS are DOUBLES."
    private static void joinedLanes() {
        int[][] table = {{0, 1, 2, 3, 4, 5}, {1, 1, 2, 3, 4, 5}, {2, 2, 2, 3, 5, 5}, {3, 3, 3, 3, 5, 5}, {4, 4, 5, 5, 4, 5}, {5, 5, 5, 5, 5, 5}};
        for (int a = TRUTHS; a <= DOUBLES; a++) {
            for (int b = TRUTHS; b <= DOUBLES; b++) {
                int joined = table[a][b];
                SpreadRules x = new SpreadRules();
                x.tensor(TRUTHS);
                x.tensor(a);
                x.tensor(b);
                x.item(1, 0, told(a, 1));
                x.item(2, 0, told(b, 1));
                dueRow("where of " + a + ", " + b, x, x.where(0, 1, 2), joined, told(joined, 1));
                dueRow("act 9 of " + a + ", " + b, x, x.act(9, 1, 2), joined, told(joined, 1));
                x.tensor(joined);
                due("into the JOINED LANE", x.into(9, 1, 2, 5), 1);
                dueRow("into the JOINED LANE", x, 5, joined, told(joined, 1));
            }
        }
        SpreadRules x = new SpreadRules();
        row(x, INTS, (1 << 24) + 1);
        floats(x, 0x1p24);
        dueDoubles("INTS with FLOATS keep all bits", x, x.act(1, 0, 1), 1);
        row(x, BYTES, 127);
        dueFloats("BYTES with FLOATS are FLOATS", x, x.act(0, 3, 1), 0x1p24 + 128);
    }

    // "a EXTENT of 1 becomes the other one": also 0, and where there is none.
    private static void extentOfOneBecomesTheOther() {
        int[][][] cases = {
            {{1}, {60}, {60}}, {{60}, {1}, {60}}, {{1}, {0}, {0}}, {{0}, {1}, {0}}, {{1}, {1}, {1}}, {{}, {}, {}}, {{}, {1}, {1}}, {{1}, {}, {1}},
            {{}, {0}, {0}}, {{}, {2, 3, 4}, {2, 3, 4}}, {{2, 3, 4}, {}, {2, 3, 4}}, {{4}, {2, 3, 1}, {2, 3, 4}}, {{3, 1}, {2, 1, 4}, {2, 3, 4}},
            {{1, 1, 1}, {4}, {1, 1, 4}}, {{2, 1, 1}, {3, 1}, {2, 3, 1}}, {{1, 0, 1}, {2, 1, 3}, {2, 0, 3}}, {{60, 1}, {4}, {60, 4}},
            {{0, 60, 1}, {60}, {0, 60, 60}}};
        for (int[][] c : cases) {
            SpreadRules x = new SpreadRules();
            extents(x, INTS, c[0]);
            extents(x, INTS, c[1]);
            due("spread", x.act(0, 0, 1), 2);
            dueExtents("spread", x, 2, c[2]);
            due("spread", x.act(0, 1, 0), 3);
            dueExtents("spread, the other way round", x, 3, c[2]);
        }
    }

    // "else both must be alike"
    private static void elseBothMustBeAlike() {
        int[][] pairs = {{2, 3}, {3, 2}, {0, 2}, {2, 0}, {59, 60}, {60, 59}};
        for (int[] p : pairs) {
            SpreadRules x = new SpreadRules();
            x.shaped(INTS, p[0], NONE, NONE);
            x.shaped(INTS, p[1], NONE, NONE);
            dueFailure("unlike", x, 0, x.act(0, 0, 1), OTHER_EXTENTS, 0);
            due("alike", x.act(0, 0, 0), 2);
            due("alike", x.act(0, 1, 1), 3);
        }
    }

    // "The UNLIKE AXIS is the first such from the last one on (0 is the last)."
    private static void unlikeAxisIsTheFirstFromTheLast() {
        int[][][] cases = {
            {{2}, {3}, {0}}, {{2, 5}, {3, 5}, {1}}, {{2, 5}, {2, 6}, {0}}, {{2, 5}, {3, 6}, {0}}, {{2, 5, 7}, {3, 5, 7}, {2}}, {{2, 5, 7}, {3, 6, 7}, {1}},
            {{2, 5, 7}, {3, 6, 8}, {0}}, {{2, 5, 7}, {2, 6, 8}, {0}}, {{2, 5, 7}, {6, 7}, {1}}, {{2, 5, 7}, {8}, {0}}, {{3, 1}, {2, 5, 7}, {1}},
            {{2, 1, 1}, {3, 5, 7}, {2}}, {{0, 1}, {3, 1}, {1}}};
        for (int[][] c : cases) {
            SpreadRules x = new SpreadRules();
            extents(x, TRUTHS, c[0]);
            extents(x, TRUTHS, c[1]);
            dueFailure("act", x, 0, x.act(8, 0, 1), OTHER_EXTENTS, c[2][0]);
            dueFailure("act", x, 1, x.act(8, 1, 0), OTHER_EXTENTS, c[2][0]);
            dueFailure("into", x, 2, x.into(8, 0, 1, 0), OTHER_EXTENTS, c[2][0]);
            dueFailure("where of a, b", x, 3, x.where(0, 0, 1), OTHER_EXTENTS, c[2][0]);
            dueFailure("where of the mask", x, 4, x.where(0, 1, 1), OTHER_EXTENTS, c[2][0]);
            due("none was made", x.count(0), 2);
        }
    }

    // "ITEM of the SPREAD at some indices: a TENSOR's at these, 0 where its EXTENT is 1."
    private static void itemOfTheSpread() {
        int[][] shapes = {{}, {1}, {4}, {3, 1}, {1, 4}, {3, 4}, {2, 1, 1}, {2, 3, 1}, {2, 1, 4}, {1, 3, 4}, {1, 1, 1}, {2, 3, 4}};
        for (int[] e : shapes) {
            SpreadRules x = new SpreadRules();
            x.shaped(INTS, 2, 3, 4);
            int t = extents(x, INTS, e);
            for (int n = 0; n < x.of(t, 2); n++) {
                x.item(t, n, n + 1);
            }
            int sum = x.act(0, 0, t);
            int[] three = {1, 1, 1};
            System.arraycopy(e, 0, three, 3 - e.length, e.length);
            for (int n = 0; n < 24; n++) {
                int i = three[0] == 1 ? 0 : n / 12;
                int j = three[1] == 1 ? 0 : n / 4 % 3;
                int k = three[2] == 1 ? 0 : n % 4;
                due("ITEM " + n + " of the SPREAD", x.bits(sum, n, INTS), (i * three[1] + j) * three[2] + k + 1);
            }
        }
    }

    /** Each row of EXTENTS of 0 to 3 with each other one, against the sentences once more. */
    private static void everyPairOfSmallShapes() {
        int[][] shapes = new int[85][];
        int made = 0;
        for (int rank = 0; rank <= 3; rank++) {
            for (int n = 0; n < 1 << 2 * rank; n++) {
                shapes[made] = new int[rank];
                for (int at = 0; at < rank; at++) {
                    shapes[made][at] = n >> 2 * at & 3;
                }
                made++;
            }
        }
        for (int[] a : shapes) {
            for (int[] b : shapes) {
                duePair(a, b);
            }
        }
    }

    private static void duePair(int[] a, int[] b) {
        SpreadRules x = new SpreadRules();
        extents(x, BYTES, a);
        extents(x, BYTES, b);
        int[] result = new int[Math.max(a.length, b.length)];
        int unlike = NONE;
        for (int axis = 0; axis < result.length && unlike == NONE; axis++) {
            int left = axis < a.length ? a[a.length - 1 - axis] : 1;
            int right = axis < b.length ? b[b.length - 1 - axis] : 1;
            unlike = left != 1 && right != 1 && left != right ? axis : NONE;
            result[result.length - 1 - axis] = left == 1 ? right : left;
        }
        int got = x.act(0, 0, 1);
        due("act of a pair", got, unlike == NONE ? 2 : OTHER_EXTENTS);
        due("PLACE of a pair", x.place(), unlike);
        if (got == 2) {
            dueExtents("EXTENTS of a pair", x, 2, result);
        }
    }
}
