/**
 * The document's "ACTS" and "OF ONE", sentence by sentence: each that has a border has a method of its own, which goes
 * to the last VALUES before the border and to the first ones beyond it.
 */
public final class ActBorders extends Rows {
    private static final double TINY = Double.MIN_VALUE, MOST = Double.MAX_VALUE;
    private static final double TINY_FLOAT = Float.MIN_VALUE, MOST_FLOAT = Float.MAX_VALUE;

    private ActBorders() {
    }

    public static void main(String[] args) {
        actsByNumber();
        bothGoToTheLane();
        sumsRunOver();
        differencesRunOver();
        productsRunOver();
        truthsAsOfInts();
        sumsAreRoundedOnce();
        sumsBeyondAll();
        sumsOfZerosAndInfinities();
        productsAreRoundedOnce();
        productsBeyondAllAndNearZero();
        productsOfZerosAndInfinities();
        quotientsAsOfDoubles();
        quotientsOfReals();
        quotientsOfZerosAndInfinities();
        wholeDivisionsBySigns();
        leastByMinusOne();
        byZeroFails();
        byZeroAtItsPlace();
        byZeroWithSettingOne();
        byZeroOfReals();
        quotientsCutAndDownward();
        restOfCut();
        restOfCutIsNoNumber();
        restOfDownward();
        lesserAndGreater();
        lesserAndGreaterWithNoNumber();
        lesserAndGreaterOfTruths();
        bitActs();
        bitActsOfReals();
        leftByLowestBits();
        rightWithSign();
        rightWithZeros();
        shiftsOfTruths();
        comparisonsOfWholes();
        comparisonsOfReals();
        sizeWithSignOfWholes();
        sizeWithSignOfReals();
        ofOneByNumber();
        negatives();
        sizes();
        signs();
        wholeNumbersNotAbove();
        wholeNumbersNotBelow();
        nearestWholeNumbers();
        cutNumbers();
        wholesStayAsTheyAre();
        not();
        whetherNoNumber();
        Due.end();
    }

    /** An ACT of one VALUE each, by act and by into; another ITEM goes before it, so that nothing may be left over from that. */
    private static void dueAct(int op, int lane, long a, long b, int resultLane, long want) {
        SpreadRules x = new SpreadRules();
        row(x, lane, told(lane, -3), a);
        row(x, lane, told(lane, 1.25), b);
        row(x, resultLane, 0, 0);
        String what = "act " + op + " of LANE " + lane + ": " + a + ", " + b;
        due(what, x.act(op, 0, 1), 3);
        due(what + ", LANE", x.of(3, 0), resultLane);
        due(what, x.bits(3, 1, resultLane), want);
        due(what + ", into", x.into(op, 0, 1, 2), 1);
        due(what + ", into", x.bits(2, 1, resultLane), want);
        due(what + ", FAILURES", x.count(3), 0);
        due(what + ", MISSING", x.count(2), 0);
    }

    private static void dueWhole(int op, int lane, long a, long b, long want) {
        dueAct(op, lane, a, b, lane, want);
    }

    private static void dueDouble(int op, double a, double b, double want) {
        dueAct(op, DOUBLES, d(a), d(b), DOUBLES, d(want));
    }

    private static void dueFloat(int op, double a, double b, double want) {
        dueAct(op, FLOATS, f(a), f(b), FLOATS, f(want));
    }

    /** Numbers that FLOATS and DOUBLES both have exactly. */
    private static void dueReal(int op, double a, double b, double want) {
        dueFloat(op, a, b, want);
        dueDouble(op, a, b, want);
    }

    private static void dueOne(int op, int lane, long a, int resultLane, long want) {
        SpreadRules x = new SpreadRules();
        row(x, lane, told(lane, -2.5), a);
        String what = "one " + op + " of LANE " + lane + ": " + a;
        due(what, x.one(op, 0), 1);
        due(what + ", LANE", x.of(1, 0), resultLane);
        due(what, x.bits(1, 1, resultLane), want);
    }

    private static void dueRealOne(int op, double a, double want) {
        dueOne(op, FLOATS, f(a), FLOATS, f(want));
        dueOne(op, DOUBLES, d(a), DOUBLES, d(want));
    }

    private static void dueDoubleOne(int op, double a, double want) {
        dueOne(op, DOUBLES, d(a), DOUBLES, d(want));
    }

    private static void dueFloatOne(int op, double a, double want) {
        dueOne(op, FLOATS, f(a), FLOATS, f(want));
    }

    // "ACTS .., by number": 0 to 22.
    private static void actsByNumber() {
        SpreadRules x = new SpreadRules();
        x.tensor(INTS);
        x.item(0, 0, 3);
        due("the first ACT", x.act(0, 0, 0), 1);
        due("the last ACT", x.act(22, 0, 0), 2);
        due("the last ACT", x.into(22, 0, 0, 0), 1);
        for (int op : new int[] {-1, 23, MIN, MAX}) {
            due("no ACT " + op, x.act(op, 0, 0), BAD);
            due("no ACT " + op, x.into(op, 0, 0, 0), BAD);
        }
        due("BAD is no FAILURE", x.count(3), 0);
        due("BAD makes none", x.count(0), 3);
    }

    // "(both having gone TO it)"
    private static void bothGoToTheLane() {
        SpreadRules x = new SpreadRules();
        row(x, BYTES, 127);
        row(x, LONGS, Long.MAX_VALUE - 127);
        dueRow("BYTES as LONGS", x, x.act(0, 0, 1), LONGS, Long.MAX_VALUE);
        dueRow("LONGS with BYTES", x, x.act(0, 1, 0), LONGS, Long.MAX_VALUE);
        row(x, TRUTHS, 1);
        dueRow("TRUTHS as BYTES run over as BYTES", x, x.act(0, 0, 4), BYTES, -128);
        row(x, LONGS, (1L << 53) + 1);
        doubles(x, 0x1p53);
        dueRow("LONGS as DOUBLES are like", x, x.act(20, 6, 7), TRUTHS, 1);
        dueRow("LONGS as DOUBLES are not less", x, x.act(18, 7, 6), TRUTHS, 0);
        dueRow("TRUTHS as LONGS", x, x.act(2, 4, 6), LONGS, (1L << 53) + 1);
        row(x, INTS, (1 << 24) + 1);
        floats(x, 0x1p24);
        dueRow("INTS and FLOATS as DOUBLES are not like", x, x.act(20, 11, 12), TRUTHS, 0);
        dueRow("BYTES as FLOATS", x, x.act(18, 0, 12), TRUTHS, 1);
    }

    // "Whole LANES run over, by as many bits as they have": 0 sum
    private static void sumsRunOver() {
        for (int lane = BYTES; lane <= LONGS; lane++) {
            dueWhole(0, lane, GREATEST[lane] - 1, 1, GREATEST[lane]);
            dueWhole(0, lane, GREATEST[lane], 1, LEAST[lane]);
            dueWhole(0, lane, LEAST[lane] + 1, -1, LEAST[lane]);
            dueWhole(0, lane, LEAST[lane], -1, GREATEST[lane]);
            dueWhole(0, lane, GREATEST[lane], GREATEST[lane], -2);
            dueWhole(0, lane, LEAST[lane], LEAST[lane], 0);
            dueWhole(0, lane, LEAST[lane], GREATEST[lane], -1);
        }
    }

    private static void differencesRunOver() {
        for (int lane = BYTES; lane <= LONGS; lane++) {
            dueWhole(1, lane, LEAST[lane] + 1, 1, LEAST[lane]);
            dueWhole(1, lane, LEAST[lane], 1, GREATEST[lane]);
            dueWhole(1, lane, GREATEST[lane] - 1, -1, GREATEST[lane]);
            dueWhole(1, lane, GREATEST[lane], -1, LEAST[lane]);
            dueWhole(1, lane, 0, LEAST[lane], LEAST[lane]);
            dueWhole(1, lane, -1, LEAST[lane], GREATEST[lane]);
            dueWhole(1, lane, 5, 7, -2);
        }
    }

    private static void productsRunOver() {
        dueWhole(2, BYTES, 63, 2, 126);
        dueWhole(2, BYTES, 64, 2, -128);
        dueWhole(2, BYTES, 64, 4, 0);
        dueWhole(2, INTS, 46340, 46340, 2147395600);
        dueWhole(2, INTS, 46341, 46341, -2147479015);
        dueWhole(2, INTS, 65536, 65536, 0);
        dueWhole(2, LONGS, 3037000499L, 3037000499L, 9223372030926249001L);
        dueWhole(2, LONGS, 3037000500L, 3037000500L, -9223372036709301616L);
        dueWhole(2, LONGS, 1L << 32, 1L << 32, 0);
        for (int lane = BYTES; lane <= LONGS; lane++) {
            dueWhole(2, lane, GREATEST[lane], GREATEST[lane], 1);
            dueWhole(2, lane, LEAST[lane], -1, LEAST[lane]);
            dueWhole(2, lane, LEAST[lane] + 1, -1, GREATEST[lane]);
            dueWhole(2, lane, LEAST[lane], LEAST[lane], 0);
            dueWhole(2, lane, -1, -1, 1);
        }
    }

    // "0 sum, 1 difference, 2 product: of TRUTHS as of INTS."
    private static void truthsAsOfInts() {
        dueAct(0, TRUTHS, 1, 1, INTS, 2);
        dueAct(0, TRUTHS, 0, 1, INTS, 1);
        dueAct(1, TRUTHS, 0, 1, INTS, -1);
        dueAct(1, TRUTHS, 1, 1, INTS, 0);
        dueAct(2, TRUTHS, 1, 1, INTS, 1);
        dueAct(2, TRUTHS, 1, 0, INTS, 0);
        SpreadRules x = new SpreadRules();
        x.tensor(TRUTHS);
        x.tensor(BYTES);
        due("INTS do not go into BYTES", x.into(0, 0, 0, 1), OTHER_LANE);
        due("nor into TRUTHS", x.into(0, 0, 0, 0), OTHER_LANE);
    }

    // "FLOATS, DOUBLES are rounded (as above) once."
    private static void sumsAreRoundedOnce() {
        dueDouble(0, 1, 0x1p-53, 1);
        dueDouble(0, 1, Math.nextUp(0x1p-53), Math.nextUp(1.0));
        dueDouble(0, Math.nextUp(1.0), 0x1p-53, 1 + 0x1p-51);
        dueDouble(0, 1, -0x1p-54, 1);
        dueDouble(0, 1, -Math.nextUp(0x1p-54), Math.nextDown(1.0));
        dueDouble(0, 1, TINY, 1);
        dueDouble(0, 1, -TINY, 1);
        dueDouble(1, 1, TINY, 1);
        dueDouble(1, Math.nextUp(1.0), 1, 0x1p-52);
        dueDouble(0, 0x1p53, 1, 0x1p53);
        dueDouble(0, 0x1p53, 3, 0x1p53 + 4);
        dueDouble(0, 0.1, 0.2, 0.30000000000000004);
        // As near to both but for the last bit of y, which is far below.
        dueDouble(0, 2 - 0x1p-52, 0x1p-11 + 0x1p-51 + 0x1p-63, 2 + 0x1p-11 + 0x1p-51);
        dueDouble(0, 2 - 0x1p-52, 0x1p-11 + 0x1p-51, 2 + 0x1p-11);
        dueFloat(0, 1, 0x1p-24, 1);
        dueFloat(0, 1, Math.nextUp(0x1p-24f), Math.nextUp(1f));
        dueFloat(0, Math.nextUp(1f), 0x1p-24, 1 + 0x1p-22);
        dueFloat(0, 0x1p24, 1, 0x1p24);
        dueFloat(0, 0x1p24, 3, 0x1p24 + 4);
        dueFloat(0, 1, TINY_FLOAT, 1);
        dueFloat(1, 1, Math.nextUp(0x1p-25f), Math.nextDown(1f));
        dueDouble(0, TINY, TINY, 2 * TINY);
        dueDouble(1, Double.MIN_NORMAL, TINY, Double.MIN_NORMAL - TINY);
        dueDouble(0, Double.MIN_NORMAL - TINY, TINY, Double.MIN_NORMAL);
        dueFloat(0, TINY_FLOAT, TINY_FLOAT, 2 * TINY_FLOAT);
    }

    private static void sumsBeyondAll() {
        dueDouble(0, MOST, 0, MOST);
        dueDouble(0, MOST, Math.nextDown(0x1p970), MOST);
        dueDouble(0, MOST, 0x1p970, INFINITE);
        dueDouble(0, -MOST, -0x1p970, -INFINITE);
        dueDouble(0, -MOST, -Math.nextDown(0x1p970), -MOST);
        dueDouble(0, MOST, MOST, INFINITE);
        dueDouble(1, -MOST, MOST, -INFINITE);
        dueDouble(0, MOST, -MOST, 0);
        dueFloat(0, MOST_FLOAT, Math.nextDown(0x1p103f), MOST_FLOAT);
        dueFloat(0, MOST_FLOAT, 0x1p103, INFINITE);
        dueFloat(1, -MOST_FLOAT, 0x1p103, -INFINITE);
        dueFloat(0, MOST_FLOAT, MOST_FLOAT, INFINITE);
    }

    private static void sumsOfZerosAndInfinities() {
        dueReal(0, 0.0, 0.0, 0.0);
        dueReal(0, 0.0, -0.0, 0.0);
        dueReal(0, -0.0, 0.0, 0.0);
        dueReal(0, -0.0, -0.0, -0.0);
        dueReal(1, 0.0, 0.0, 0.0);
        dueReal(1, 0.0, -0.0, 0.0);
        dueReal(1, -0.0, 0.0, -0.0);
        dueReal(1, -0.0, -0.0, 0.0);
        dueReal(0, -1, 1, 0.0);
        dueReal(1, -1, -1, 0.0);
        dueReal(0, -0.0, 1, 1);
        dueReal(1, 0.0, 1, -1);
        dueReal(0, INFINITE, -1, INFINITE);
        dueReal(0, 1, -INFINITE, -INFINITE);
        dueReal(0, INFINITE, INFINITE, INFINITE);
        dueReal(0, INFINITE, -INFINITE, NO_NUMBER);
        dueReal(0, -INFINITE, INFINITE, NO_NUMBER);
        dueReal(1, INFINITE, INFINITE, NO_NUMBER);
        dueReal(1, -INFINITE, -INFINITE, NO_NUMBER);
        dueReal(1, INFINITE, -INFINITE, INFINITE);
        dueReal(1, 1, INFINITE, -INFINITE);
        for (int op = 0; op <= 7; op++) {
            dueReal(op, NO_NUMBER, 1, NO_NUMBER);
            dueReal(op, 1, NO_NUMBER, NO_NUMBER);
            dueReal(op, NO_NUMBER, NO_NUMBER, NO_NUMBER);
            dueReal(op, NO_NUMBER, INFINITE, NO_NUMBER);
            dueReal(op, 0, NO_NUMBER, NO_NUMBER);
        }
    }

    private static void productsAreRoundedOnce() {
        double step = 0x1p-52;
        dueDouble(2, 1 + step, 1 + step, 1 + 2 * step);
        dueDouble(2, 1 + step, 1.5, 1.5 + 2 * step);
        dueDouble(2, 1 + 3 * step, 1.5, 1.5 + 4 * step);
        dueDouble(2, 1 + step, -1.5, -1.5 - 2 * step);
        dueDouble(2, 0.1, 3, 0.30000000000000004);
        // As near to both but for the product's last bit of all.
        dueDouble(2, 0x1.11b752265b1f5p0, 0x1.d8f67e0cab25dp0, 0x1.f9b18c656ee1fp0);
        dueDouble(2, 0x1.78e517311d8a3p0, 0x1.c4e540bbb9b0bp0, 0x1.4d6300970ecebp1);
        // The lower halves carry.
        dueDouble(2, 0x1.b9406fe175330p0, 0x1.4be03dc2574bdp0, 0x1.1e0469bedde25p1);
        dueDouble(2, Math.nextDown(2.0), Math.nextDown(2.0), 4 - 0x1p-50);
        dueDouble(2, 3, 0x1p-1074, 3 * TINY);
        dueFloat(2, 1 + 0x1p-23, 1.5, 1.5 + 0x1p-22);
        dueFloat(2, 1 + 3 * 0x1p-23, 1.5, 1.5 + 4 * 0x1p-23);
        dueFloat(2, 16777215, 16777215, 16777215f * 16777215f);
        dueDouble(2, 134217729, 134217729, 18014398777917440.0);
        dueReal(2, -3, 5, -15);
        dueReal(2, -3, -5, 15);
    }

    private static void productsBeyondAllAndNearZero() {
        dueDouble(2, MOST, 1, MOST);
        dueDouble(2, MOST, Math.nextUp(1.0), INFINITE);
        dueDouble(2, MOST / 2, 2, MOST);
        dueDouble(2, 0x1p512, 0x1p512, INFINITE);
        dueDouble(2, 0x1p512, -0x1p512, -INFINITE);
        dueDouble(2, 0x1p512, 0x1p511, 0x1p1023);
        dueDouble(2, TINY, 0.5, 0.0);
        dueDouble(2, TINY, Math.nextUp(0.5), TINY);
        dueDouble(2, TINY, 1.5, 2 * TINY);
        dueDouble(2, TINY, -0.5, -0.0);
        dueDouble(2, TINY, TINY, 0.0);
        dueDouble(2, -TINY, TINY, -0.0);
        dueDouble(2, Double.MIN_NORMAL, 0.5, Double.MIN_NORMAL / 2);
        dueDouble(2, Math.nextDown(1.0), Double.MIN_NORMAL, Double.MIN_NORMAL);
        dueFloat(2, MOST_FLOAT, 1, MOST_FLOAT);
        dueFloat(2, MOST_FLOAT, Math.nextUp(1f), INFINITE);
        dueFloat(2, 0x1p64, 0x1p64, INFINITE);
        dueFloat(2, 0x1p64, 0x1p63, 0x1p127);
        dueFloat(2, TINY_FLOAT, 0.5, 0.0);
        dueFloat(2, TINY_FLOAT, Math.nextUp(0.5f), TINY_FLOAT);
        dueFloat(2, TINY_FLOAT, -0.5, -0.0);
    }

    private static void productsOfZerosAndInfinities() {
        dueReal(2, 0.0, 5, 0.0);
        dueReal(2, -0.0, 5, -0.0);
        dueReal(2, 0.0, -5, -0.0);
        dueReal(2, -0.0, -5, 0.0);
        dueReal(2, -0.0, 0.0, -0.0);
        dueReal(2, -0.0, -0.0, 0.0);
        dueReal(2, INFINITE, -2, -INFINITE);
        dueReal(2, -INFINITE, -2, INFINITE);
        dueReal(2, INFINITE, INFINITE, INFINITE);
        dueReal(2, INFINITE, -INFINITE, -INFINITE);
        dueReal(2, INFINITE, 0.0, NO_NUMBER);
        dueReal(2, -0.0, INFINITE, NO_NUMBER);
        dueReal(2, 0.0, -INFINITE, NO_NUMBER);
    }

    // "3 quotient: of whole LANES and TRUTHS as of DOUBLES (FLOATS, DOUBLES stay)."
    private static void quotientsAsOfDoubles() {
        for (int lane = TRUTHS; lane <= LONGS; lane++) {
            dueAct(3, lane, 1, 1, DOUBLES, d(1));
            dueAct(3, lane, 0, 1, DOUBLES, 0);
            dueAct(3, lane, 1, 0, DOUBLES, d(INFINITE));
            dueAct(3, lane, 0, 0, DOUBLES, d(NO_NUMBER));
        }
        for (int lane = BYTES; lane <= LONGS; lane++) {
            dueAct(3, lane, -1, 0, DOUBLES, d(-INFINITE));
            dueAct(3, lane, 0, -1, DOUBLES, d(-0.0));
            dueAct(3, lane, -7, 2, DOUBLES, d(-3.5));
            dueAct(3, lane, LEAST[lane], -1, DOUBLES, d(-(double) LEAST[lane]));
            dueAct(3, lane, 1, 3, DOUBLES, d(1 / 3.0));
        }
        dueAct(3, LONGS, (1L << 53) + 1, 1, DOUBLES, d(0x1p53));
        dueAct(3, LONGS, (1L << 53) + 3, 1, DOUBLES, d(0x1p53 + 4));
        dueAct(3, LONGS, Long.MAX_VALUE, Long.MAX_VALUE - 1, DOUBLES, d(1));
        SpreadRules x = new SpreadRules();
        row(x, BYTES, 1);
        row(x, INTS, 1);
        floats(x, 3);
        dueFloats("BYTES by FLOATS", x, x.act(3, 0, 2), 1f / 3f);
        dueDoubles("INTS by FLOATS", x, x.act(3, 1, 2), 1 / 3.0);
        dueDoubles("BYTES by INTS", x, x.act(3, 0, 1), 1);
        x.tensor(FLOATS);
        due("DOUBLES do not go into FLOATS", x.into(3, 0, 0, 6), OTHER_EXTENTS);
        x.shaped(FLOATS, 1, NONE, NONE);
        due("DOUBLES do not go into FLOATS", x.into(3, 0, 0, 7), OTHER_LANE);
    }

    private static void quotientsOfReals() {
        dueDouble(3, 1, 3, 0.3333333333333333);
        dueDouble(3, 1, Math.nextUp(1.0), 1 - 0x1p-52);
        dueDouble(3, 1, Math.nextDown(1.0), 1 + 0x1p-52);
        dueDouble(3, MOST, 0.5, INFINITE);
        dueDouble(3, MOST, Math.nextDown(1.0), INFINITE);
        dueDouble(3, -MOST, TINY, -INFINITE);
        dueDouble(3, MOST, MOST, 1);
        dueDouble(3, TINY, 2, 0.0);
        dueDouble(3, TINY, Math.nextDown(2.0), TINY);
        dueDouble(3, -TINY, 2, -0.0);
        dueDouble(3, 3 * TINY, 2, 2 * TINY);
        dueDouble(3, TINY, MOST, 0.0);
        dueDouble(3, TINY, TINY, 1);
        dueFloat(3, 1, 3, 1f / 3f);
        dueFloat(3, MOST_FLOAT, 0.5, INFINITE);
        dueFloat(3, TINY_FLOAT, 2, 0.0);
        dueFloat(3, TINY_FLOAT, Math.nextDown(2f), TINY_FLOAT);
        dueFloat(3, TINY_FLOAT, -2, -0.0);
        dueReal(3, 7, -2, -3.5);
    }

    private static void quotientsOfZerosAndInfinities() {
        for (int op = 3; op <= 5; op++) {
            dueReal(op, 1, 0.0, INFINITE);
            dueReal(op, 1, -0.0, -INFINITE);
            dueReal(op, -1, 0.0, -INFINITE);
            dueReal(op, -1, -0.0, INFINITE);
            dueReal(op, 0.0, 0.0, NO_NUMBER);
            dueReal(op, -0.0, 0.0, NO_NUMBER);
            dueReal(op, 0.0, 5, 0.0);
            dueReal(op, -0.0, 5, -0.0);
            dueReal(op, 0.0, -5, -0.0);
            dueReal(op, 5, INFINITE, 0.0);
            dueReal(op, 5, -INFINITE, -0.0);
            dueReal(op, INFINITE, 5, INFINITE);
            dueReal(op, INFINITE, -5, -INFINITE);
            dueReal(op, INFINITE, 0.0, INFINITE);
            dueReal(op, INFINITE, -0.0, -INFINITE);
            dueReal(op, 0.0, -INFINITE, -0.0);
            dueReal(op, INFINITE, INFINITE, NO_NUMBER);
            dueReal(op, -INFINITE, INFINITE, NO_NUMBER);
        }
    }

    // "4 quotient cut towards 0, 5 downward, 6 the rest of 4, 7 the rest of 5: of whole LANES, TRUTHS as of INTS"
    private static void wholeDivisionsBySigns() {
        int[][] divisions = {{7, 2, 3, 3, 1, 1}, {-7, 2, -3, -4, -1, 1}, {7, -2, -3, -4, 1, -1}, {-7, -2, 3, 3, -1, -1}, {6, 2, 3, 3, 0, 0},
            {-6, 2, -3, -3, 0, 0}, {6, -2, -3, -3, 0, 0}, {1, 2, 0, 0, 1, 1}, {-1, 2, 0, -1, -1, 1}, {1, -2, 0, -1, 1, -1}, {0, -5, 0, 0, 0, 0},
            {127, -128, 0, -1, 127, -1}, {-128, 127, -1, -2, -1, 126}, {-128, -128, 1, 1, 0, 0}};
        for (int lane = BYTES; lane <= LONGS; lane++) {
            for (int[] v : divisions) {
                for (int op = 4; op <= 7; op++) {
                    dueWhole(op, lane, v[0], v[1], v[op - 2]);
                }
            }
        }
        for (int lane = INTS; lane <= LONGS; lane++) {
            dueWhole(4, lane, LEAST[lane], GREATEST[lane], -1);
            dueWhole(5, lane, LEAST[lane], GREATEST[lane], -2);
            dueWhole(6, lane, LEAST[lane], GREATEST[lane], -1);
            dueWhole(7, lane, LEAST[lane], GREATEST[lane], GREATEST[lane] - 1);
            dueWhole(7, lane, GREATEST[lane], LEAST[lane], -1);
            dueWhole(5, lane, GREATEST[lane], LEAST[lane], -1);
        }
        for (int op = 4; op <= 7; op++) {
            dueAct(op, TRUTHS, 1, 1, INTS, op < 6 ? 1 : 0);
            dueAct(op, TRUTHS, 0, 1, INTS, 0);
        }
    }

    // "The least number by -1: running over."
    private static void leastByMinusOne() {
        for (int lane = BYTES; lane <= LONGS; lane++) {
            for (int op = 4; op <= 7; op++) {
                dueWhole(op, lane, LEAST[lane], -1, op < 6 ? LEAST[lane] : 0);
                dueWhole(op, lane, LEAST[lane] + 1, -1, op < 6 ? GREATEST[lane] : 0);
                dueWhole(op, lane, LEAST[lane], 1, op < 6 ? LEAST[lane] : 0);
                dueWhole(op, lane, GREATEST[lane], -1, op < 6 ? LEAST[lane] + 1 : 0);
            }
        }
    }

    // "In whole LANES by 0: FAILURE 5"
    private static void byZeroFails() {
        for (int lane = TRUTHS; lane <= LONGS; lane++) {
            for (int other = TRUTHS; other <= LONGS; other++) {
                SpreadRules x = new SpreadRules();
                x.tensor(lane);
                x.tensor(other);
                x.tensor(DOUBLES);
                x.item(0, 0, 1);
                x.item(2, 0, d(7));
                int failures = 0;
                for (int op = 4; op <= 7; op++) {
                    dueFailure("by 0", x, failures++, x.act(op, 0, 1), BY_ZERO, 0);
                    dueFailure("by 0", x, failures++, x.into(op, 0, 1, 2), BY_ZERO, 0);
                    dueFailure("0 by 0", x, failures++, x.act(op, 1, 1), BY_ZERO, 0);
                }
                due("by 0 makes none", x.count(0), 3);
                due("by 0 is not MISSING", x.count(2), 0);
                dueDoubles("by 0 leaves the target", x, 2, 7);
                x.item(1, 0, 1);
                due("by 1", x.act(4, 0, 1), 3);
            }
        }
    }

    // "PLACE is the ITEM's number in the result (FAILURE 5)": the first such, counted in the SPREAD.
    private static void byZeroAtItsPlace() {
        for (int zero = 0; zero < 4; zero++) {
            SpreadRules x = new SpreadRules();
            row(x, INTS, 5, 6, 7, 8);
            row(x, INTS, 1, 1, 1, 1);
            for (int n = zero; n < 4; n++) {
                x.item(1, n, 0);
            }
            dueFailure("the first 0", x, 0, x.act(5, 0, 1), BY_ZERO, zero);
            dueFailure("the first 0", x, 1, x.into(6, 0, 1, 0), BY_ZERO, zero);
            dueRow("nothing of it went in", x, 0, INTS, 5, 6, 7, 8);
        }
        SpreadRules x = new SpreadRules();
        x.shaped(INTS, 3, 1, NONE);
        x.item(0, 0, 1);
        x.item(0, 1, 1);
        row(x, INTS, 1, 1, 1, 1);
        dueFailure("the third row", x, 0, x.act(4, 1, 0), BY_ZERO, 8);
        x.item(0, 1, 0);
        dueFailure("the second row", x, 1, x.act(4, 1, 0), BY_ZERO, 4);
        x.item(1, 3, 0);
        dueFailure("the last of a row", x, 2, x.act(4, 0, 1), BY_ZERO, 3);
        x.shaped(INTS, 60, 4, NONE);
        x.shaped(INTS, 60, 1, NONE);
        for (int n = 0; n < 60; n++) {
            x.item(3, n, n < 59 ? 1 : 0);
        }
        dueFailure("the last row", x, 3, x.act(4, 2, 3), BY_ZERO, 236);
    }

    // "(with SETTING 1: the result is 0, and counts as MISSING)"
    private static void byZeroWithSettingOne() {
        for (int lane = TRUTHS; lane <= LONGS; lane++) {
            int resultLane = lane == TRUTHS ? INTS : lane;
            SpreadRules x = new SpreadRules();
            row(x, lane, 1, 1, 0);
            row(x, lane, 0, 1, 0);
            row(x, LONGS, 9, 9, 9);
            x.setting(1);
            for (int op = 4; op <= 7; op++) {
                dueRow("by 0", x, x.act(op, 0, 1), resultLane, 0, op < 6 ? 1 : 0, 0);
                due("MISSING", x.count(2), (op - 4) * 4 + 2);
                due("into, by 0", x.into(op, 0, 1, 2), 1);
                dueRow("into, by 0", x, 2, LONGS, 0, op < 6 ? 1 : 0, 0);
                due("MISSING", x.count(2), (op - 4) * 4 + 4);
            }
            due("no FAILURE", x.count(3), 0);
            x.act(3, 0, 1);
            due("quotients 3 are not MISSING", x.count(2), 16);
            x.setting(0);
            dueFailure("SETTING 0 again", x, 0, x.act(4, 0, 1), BY_ZERO, 0);
            due("MISSING stay", x.count(2), 16);
        }
        missingOnlyOfWhatIsDone();
    }

    private static void missingOnlyOfWhatIsDone() {
        SpreadRules x = new SpreadRules();
        row(x, INTS, 1, 1);
        row(x, INTS, 0, 0);
        x.shaped(FLOATS, 2, NONE, NONE);
        x.shaped(INTS, 3, NONE, NONE);
        x.setting(1);
        dueFailure("into a LANE that may not be", x, 0, x.into(4, 0, 1, 2), OTHER_LANE, NONE);
        dueFailure("into other EXTENTS", x, 1, x.into(4, 0, 1, 3), OTHER_EXTENTS, NONE);
        dueFailure("unlike EXTENTS", x, 2, x.act(4, 0, 3), OTHER_EXTENTS, 0);
        due("what FAILS is not MISSING", x.count(2), 0);
    }

    // FLOATS and DOUBLES are no whole LANES: by 0 they have a result, with both SETTINGS.
    private static void byZeroOfReals() {
        for (int setting = 0; setting <= 1; setting++) {
            SpreadRules x = new SpreadRules();
            x.setting(setting);
            floats(x, 1);
            row(x, BYTES, 0);
            row(x, INTS, 0);
            dueFloats("FLOATS by BYTES", x, x.act(4, 0, 1), INFINITE);
            dueFloats("FLOATS by BYTES", x, x.act(5, 0, 1), INFINITE);
            dueFloats("FLOATS by BYTES", x, x.act(6, 0, 1), NO_NUMBER);
            dueFloats("FLOATS by BYTES", x, x.act(7, 0, 1), NO_NUMBER);
            dueDoubles("FLOATS by INTS", x, x.act(4, 0, 2), INFINITE);
            dueDoubles("FLOATS by INTS", x, x.act(7, 0, 2), NO_NUMBER);
            due("no FAILURE", x.count(3), 0);
            due("not MISSING", x.count(2), 0);
        }
    }

    // "FLOATS, DOUBLES: 4, 5: the quotient, then of that OF ONE 6, 3"
    private static void quotientsCutAndDownward() {
        double[][] cases = {{7, 2, 3, 3}, {-7, 2, -3, -4}, {7, -2, -3, -4}, {-7, -2, 3, 3}, {1, 2, 0.0, 0.0}, {-1, 2, -0.0, -1}, {1, -2, -0.0, -1},
            {-1, -2, 0.0, 0.0}, {6, 2, 3, 3}, {-6, 2, -3, -3}};
        for (double[] c : cases) {
            dueReal(4, c[0], c[1], c[2]);
            dueReal(5, c[0], c[1], c[3]);
        }
        dueDouble(4, 1, 0.1, 10);
        dueDouble(5, 1, 0.1, 10);
        dueDouble(5, -1, 0.1, -10);
        dueFloat(5, 1, 0.1f, 10);
        dueFloat(4, 16777215, 0.99999994f, 16777216);
        dueDouble(5, -TINY, 2, -0.0);
        dueDouble(5, -TINY, 1, -1);
        dueDouble(4, -TINY, 1, -0.0);
        dueDouble(4, MOST, 0.5, INFINITE);
        dueDouble(5, -MOST, 0.5, -INFINITE);
        dueDouble(4, MOST, 3, MOST / 3);
        dueFloat(5, -MOST_FLOAT, 0.5, -INFINITE);
    }

    // "6: what is left exactly, with x's sign"
    private static void restOfCut() {
        dueReal(6, 7, 2, 1);
        dueReal(6, -7, 2, -1);
        dueReal(6, 7, -2, 1);
        dueReal(6, -7, -2, -1);
        dueReal(6, 6, 2, 0.0);
        dueReal(6, -6, 2, -0.0);
        dueReal(6, -6, -2, -0.0);
        dueReal(6, 0.0, -2, 0.0);
        dueReal(6, -0.0, 2, -0.0);
        dueReal(6, 2, 7, 2);
        dueReal(6, 5.5, 2.25, 1);
        dueReal(6, 5, INFINITE, 5);
        dueReal(6, -5, INFINITE, -5);
        dueReal(6, 5, -INFINITE, 5);
        dueReal(6, -0.0, INFINITE, -0.0);
        dueDouble(6, 1, 0.1, 0.09999999999999995);
        dueDouble(6, MOST, TINY, 0.0);
        dueDouble(6, -MOST, TINY, -0.0);
        dueDouble(6, MOST, 3 * TINY, MOST % (3 * TINY));
        dueDouble(6, MOST, 3, 2);
        dueDouble(6, TINY, MOST, TINY);
        dueDouble(6, MOST, MOST, 0.0);
        dueDouble(6, Math.nextDown(MOST), MOST, Math.nextDown(MOST));
        dueDouble(6, MOST, Math.nextDown(MOST), 0x1p971);
        dueDouble(6, 3 * TINY, 2 * TINY, TINY);
        dueDouble(6, 1e300, 7, 1e300 % 7);
        dueDouble(6, (0x1p52 + 2) * 32, 0x1p52 + 1, 32);
        dueFloat(6, MOST_FLOAT, TINY_FLOAT, 0.0);
        dueFloat(6, MOST_FLOAT, 3, 0.0);
        dueFloat(6, 1, 0.1f, 1f % 0.1f);
        dueFloat(6, 3 * TINY_FLOAT, 2 * TINY_FLOAT, TINY_FLOAT);
    }

    // "(no number of infinite x, of y 0)"
    private static void restOfCutIsNoNumber() {
        for (int op = 6; op <= 7; op++) {
            dueReal(op, INFINITE, 5, NO_NUMBER);
            dueReal(op, -INFINITE, 5, NO_NUMBER);
            dueReal(op, INFINITE, INFINITE, NO_NUMBER);
            dueReal(op, INFINITE, 0, NO_NUMBER);
            dueReal(op, 5, 0.0, NO_NUMBER);
            dueReal(op, 5, -0.0, NO_NUMBER);
            dueReal(op, -5, -0.0, NO_NUMBER);
            dueReal(op, 0.0, 0.0, NO_NUMBER);
            dueDouble(op, MOST, TINY, 0.0);
            dueFloat(op, MOST_FLOAT, TINY_FLOAT, 0.0);
        }
    }

    // "7: that, and y more, if it is not 0 and one of both is below 0"
    private static void restOfDownward() {
        dueReal(7, 7, 2, 1);
        dueReal(7, -7, 2, 1);
        dueReal(7, 7, -2, -1);
        dueReal(7, -7, -2, -1);
        dueReal(7, 6, -2, 0.0);
        dueReal(7, -6, 2, -0.0);
        dueReal(7, -6, -2, -0.0);
        dueReal(7, 0.0, -2, 0.0);
        dueReal(7, -0.0, 2, -0.0);
        dueReal(7, 5, INFINITE, 5);
        dueReal(7, -5, -INFINITE, -5);
        dueReal(7, -5, INFINITE, INFINITE);
        dueReal(7, 5, -INFINITE, -INFINITE);
        dueReal(7, 0.0, -INFINITE, 0.0);
        dueReal(7, -0.0, INFINITE, -0.0);
        dueDouble(7, -TINY, 3, 3);
        dueDouble(7, TINY, -3, -3);
        dueDouble(7, -TINY, MOST, MOST);
        dueDouble(7, -TINY, 2 * TINY, TINY);
        dueDouble(7, -1, 0.1, -1 % 0.1 + 0.1);
        dueFloat(7, -1, 0.1f, -1f % 0.1f + 0.1f);
        dueFloat(7, -TINY_FLOAT, 3, 3);
    }

    // "8 the lesser, 9 the greater: .. -0.0 less than 0.0; 10, 11 likewise"
    private static void lesserAndGreater() {
        for (int lesser = 8; lesser <= 10; lesser += 2) {
            for (int lane = BYTES; lane <= LONGS; lane++) {
                long[][] pairs = {{LEAST[lane], GREATEST[lane]}, {LEAST[lane], LEAST[lane] + 1}, {-1, 0}, {0, 1}, {5, 5}};
                for (long[] p : pairs) {
                    dueWhole(lesser, lane, p[0], p[1], p[0]);
                    dueWhole(lesser, lane, p[1], p[0], p[0]);
                    dueWhole(lesser + 1, lane, p[0], p[1], p[1]);
                    dueWhole(lesser + 1, lane, p[1], p[0], p[1]);
                }
            }
            double[][] reals = {{-0.0, 0.0}, {-INFINITE, INFINITE}, {-INFINITE, -3}, {3, INFINITE}, {-3, -2}, {-0.5, -0.0}, {0.0, 0.5}, {-1, 1}, {2, 2}};
            for (double[] p : reals) {
                dueReal(lesser, p[0], p[1], p[0]);
                dueReal(lesser, p[1], p[0], p[0]);
                dueReal(lesser + 1, p[0], p[1], p[1]);
                dueReal(lesser + 1, p[1], p[0], p[1]);
            }
            dueReal(lesser, -0.0, -0.0, -0.0);
            dueReal(lesser + 1, -0.0, -0.0, -0.0);
            dueDouble(lesser, -TINY, -0.0, -TINY);
            dueDouble(lesser + 1, 0.0, TINY, TINY);
            dueDouble(lesser, MOST, INFINITE, MOST);
            dueFloat(lesser + 1, -MOST_FLOAT, -INFINITE, -MOST_FLOAT);
        }
    }

    // "with one that is no number such a one"; "10, 11 .. with one that is no number the other one"
    private static void lesserAndGreaterWithNoNumber() {
        for (double v : new double[] {0.0, -0.0, 1, -1, INFINITE, -INFINITE}) {
            for (int op = 8; op <= 11; op++) {
                double want = op < 10 ? NO_NUMBER : v;
                dueReal(op, v, NO_NUMBER, want);
                dueReal(op, NO_NUMBER, v, want);
            }
        }
        for (int op = 8; op <= 11; op++) {
            dueReal(op, NO_NUMBER, NO_NUMBER, NO_NUMBER);
        }
    }

    // "TRUTHS as of TRUTHS."
    private static void lesserAndGreaterOfTruths() {
        for (int a = 0; a <= 1; a++) {
            for (int b = 0; b <= 1; b++) {
                dueAct(8, TRUTHS, a, b, TRUTHS, Math.min(a, b));
                dueAct(9, TRUTHS, a, b, TRUTHS, Math.max(a, b));
                dueAct(10, TRUTHS, a, b, TRUTHS, Math.min(a, b));
                dueAct(11, TRUTHS, a, b, TRUTHS, Math.max(a, b));
            }
        }
    }

    // "12 and, 13 or, 14 exclusive or: .. whole LANES; TRUTHS by 12 to 14"
    private static void bitActs() {
        for (int lane = BYTES; lane <= LONGS; lane++) {
            dueWhole(12, lane, 12, 10, 8);
            dueWhole(13, lane, 12, 10, 14);
            dueWhole(14, lane, 12, 10, 6);
            dueWhole(12, lane, LEAST[lane], -1, LEAST[lane]);
            dueWhole(12, lane, LEAST[lane], GREATEST[lane], 0);
            dueWhole(13, lane, LEAST[lane], GREATEST[lane], -1);
            dueWhole(14, lane, LEAST[lane], -1, GREATEST[lane]);
        }
        for (int a = 0; a <= 1; a++) {
            for (int b = 0; b <= 1; b++) {
                dueAct(12, TRUTHS, a, b, TRUTHS, a & b);
                dueAct(13, TRUTHS, a, b, TRUTHS, a | b);
                dueAct(14, TRUTHS, a, b, TRUTHS, a ^ b);
            }
        }
    }

    // "FLOATS, DOUBLES: FAILURE 4": by the JOINED LANE; 11 and 18 beside them are allowed.
    private static void bitActsOfReals() {
        for (int lane = TRUTHS; lane <= DOUBLES; lane++) {
            for (int real = FLOATS; real <= DOUBLES; real++) {
                SpreadRules x = new SpreadRules();
                x.tensor(lane);
                x.tensor(real);
                int failures = 0;
                for (int op = 12; op <= 17; op++) {
                    dueFailure("bits of FLOATS, DOUBLES", x, failures++, x.act(op, 0, 1), OTHER_LANE, NONE);
                    dueFailure("bits of FLOATS, DOUBLES", x, failures++, x.act(op, 1, 0), OTHER_LANE, NONE);
                    dueFailure("bits of FLOATS, DOUBLES", x, failures++, x.into(op, 0, 1, 1), OTHER_LANE, NONE);
                }
                due("none was made", x.count(0), 2);
                due("act 11", x.act(11, 0, 1), 2);
                due("act 18", x.act(18, 0, 1), 3);
            }
            SpreadRules x = new SpreadRules();
            x.tensor(lane);
            for (int op = 12; op <= 17; op++) {
                due("bits of LANE " + lane, x.act(op, 0, 0), lane >= FLOATS ? OTHER_LANE : op - 11);
            }
        }
    }

    // "15 left by y .. by the lowest 3, 5, 6 bits of y (BYTES, INTS, LONGS ..)"
    private static void leftByLowestBits() {
        int[] bits = {0, 8, 32, 64};
        for (int lane = BYTES; lane <= LONGS; lane++) {
            int width = bits[lane];
            dueWhole(15, lane, 3, 0, 3);
            dueWhole(15, lane, 3, 1, 6);
            dueWhole(15, lane, 1, width - 2, GREATEST[lane] / 2 + 1);
            dueWhole(15, lane, 1, width - 1, LEAST[lane]);
            dueWhole(15, lane, 3, width - 1, LEAST[lane]);
            dueWhole(15, lane, 3, width, 3);
            dueWhole(15, lane, 3, width + 1, 6);
            dueWhole(15, lane, 1, -1, LEAST[lane]);
            dueWhole(15, lane, 3, -width, 3);
            dueWhole(15, lane, GREATEST[lane], 1, -2);
            dueWhole(15, lane, LEAST[lane], 1, 0);
        }
        dueWhole(15, LONGS, 1, 1L << 32, 1);
        dueWhole(15, INTS, 1, MIN, 1);
    }

    // "16 right with the sign"
    private static void rightWithSign() {
        int[] bits = {0, 8, 32, 64};
        for (int lane = BYTES; lane <= LONGS; lane++) {
            int width = bits[lane];
            dueWhole(16, lane, -7, 0, -7);
            dueWhole(16, lane, -7, 1, -4);
            dueWhole(16, lane, 7, 1, 3);
            dueWhole(16, lane, LEAST[lane], width - 1, -1);
            dueWhole(16, lane, GREATEST[lane], width - 1, 0);
            dueWhole(16, lane, GREATEST[lane], width - 2, 1);
            dueWhole(16, lane, -7, width, -7);
            dueWhole(16, lane, -7, width + 1, -4);
            dueWhole(16, lane, LEAST[lane], -1, -1);
        }
    }

    // "17 right with 0s .. (.. BYTES by 17 as 8 bits)"
    private static void rightWithZeros() {
        int[] bits = {0, 8, 32, 64};
        for (int lane = BYTES; lane <= LONGS; lane++) {
            int width = bits[lane];
            dueWhole(17, lane, -1, 0, -1);
            dueWhole(17, lane, -1, 1, GREATEST[lane]);
            dueWhole(17, lane, LEAST[lane], 1, GREATEST[lane] / 2 + 1);
            dueWhole(17, lane, -1, width - 1, 1);
            dueWhole(17, lane, -1, width, -1);
            dueWhole(17, lane, -1, width + 1, GREATEST[lane]);
            dueWhole(17, lane, -1, -1, 1);
            dueWhole(17, lane, 7, 1, 3);
        }
    }

    // "TRUTHS .. by 15 to 17 as of INTS"
    private static void shiftsOfTruths() {
        dueAct(15, TRUTHS, 1, 1, INTS, 2);
        dueAct(15, TRUTHS, 1, 0, INTS, 1);
        dueAct(16, TRUTHS, 1, 1, INTS, 0);
        dueAct(16, TRUTHS, 1, 0, INTS, 1);
        dueAct(17, TRUTHS, 1, 1, INTS, 0);
        dueAct(17, TRUTHS, 0, 1, INTS, 0);
        SpreadRules x = new SpreadRules();
        row(x, TRUTHS, 1);
        row(x, BYTES, 7);
        dueRow("TRUTHS with BYTES are BYTES", x, x.act(15, 0, 1), BYTES, -128);
    }

    // "18 less, 19 less or like, 20 like, 21 not like: a TRUTH"
    private static void comparisonsOfWholes() {
        for (int lane = TRUTHS; lane <= LONGS; lane++) {
            long[][] pairs = {{LEAST[lane], GREATEST[lane]}, {0, 1}, {1, 1}, {LEAST[lane], LEAST[lane]}, {GREATEST[lane] - 1, GREATEST[lane]}};
            for (long[] p : pairs) {
                dueCompared(lane, p[0], p[1], Long.compare(p[0], p[1]));
                dueCompared(lane, p[1], p[0], Long.compare(p[1], p[0]));
            }
        }
    }

    private static void dueCompared(int lane, long a, long b, int order) {
        dueAct(18, lane, a, b, TRUTHS, order < 0 ? 1 : 0);
        dueAct(19, lane, a, b, TRUTHS, order <= 0 ? 1 : 0);
        dueAct(20, lane, a, b, TRUTHS, order == 0 ? 1 : 0);
        dueAct(21, lane, a, b, TRUTHS, order != 0 ? 1 : 0);
    }

    // "(both zeros are like; of no number only 21)"
    private static void comparisonsOfReals() {
        for (int lane = FLOATS; lane <= DOUBLES; lane++) {
            long[] inOrder = {told(lane, -INFINITE), told(lane, -2), told(lane, -1), told(lane, -0.0) + 1, 0, 1, told(lane, 1), told(lane, INFINITE)};
            for (int n = 0; n < inOrder.length; n++) {
                for (int m = 0; m < inOrder.length; m++) {
                    dueCompared(lane, inOrder[n], inOrder[m], Integer.compare(n, m));
                }
                dueUnordered(lane, inOrder[n], told(lane, NO_NUMBER));
                dueUnordered(lane, told(lane, NO_NUMBER), inOrder[n]);
            }
            dueCompared(lane, told(lane, -0.0), 0, 0);
            dueCompared(lane, 0, told(lane, -0.0), 0);
            dueCompared(lane, told(lane, -0.0), told(lane, -0.0), 0);
            dueCompared(lane, told(lane, -0.0), 1, -1);
            dueCompared(lane, told(lane, -0.0) + 1, told(lane, -0.0), -1);
            dueUnordered(lane, told(lane, NO_NUMBER), told(lane, NO_NUMBER));
        }
    }

    private static void dueUnordered(int lane, long a, long b) {
        for (int op = 18; op <= 21; op++) {
            dueAct(op, lane, a, b, TRUTHS, op == 21 ? 1 : 0);
        }
    }

    // "22 x's size with the sign of y (.. 0 of whole LANES, as without; running over); TRUTHS as of INTS."
    private static void sizeWithSignOfWholes() {
        for (int lane = BYTES; lane <= LONGS; lane++) {
            dueWhole(22, lane, 5, -9, -5);
            dueWhole(22, lane, -5, -9, -5);
            dueWhole(22, lane, -5, 9, 5);
            dueWhole(22, lane, 5, 9, 5);
            dueWhole(22, lane, -5, 0, 5);
            dueWhole(22, lane, 5, 0, 5);
            dueWhole(22, lane, 0, -1, 0);
            dueWhole(22, lane, GREATEST[lane], -1, LEAST[lane] + 1);
            dueWhole(22, lane, LEAST[lane] + 1, 1, GREATEST[lane]);
            dueWhole(22, lane, LEAST[lane], 1, LEAST[lane]);
            dueWhole(22, lane, LEAST[lane], 0, LEAST[lane]);
            dueWhole(22, lane, LEAST[lane], -1, LEAST[lane]);
        }
        for (int a = 0; a <= 1; a++) {
            for (int b = 0; b <= 1; b++) {
                dueAct(22, TRUTHS, a, b, INTS, a);
            }
        }
    }

    // "(one that is no number .. as without ..)"; both zeros have their signs.
    private static void sizeWithSignOfReals() {
        for (double size : new double[] {0, 1, 2.5, INFINITE}) {
            for (double x : new double[] {size, -size}) {
                for (double positive : new double[] {0.0, 1, INFINITE, NO_NUMBER}) {
                    dueReal(22, x, positive, size);
                }
                for (double negative : new double[] {-0.0, -1, -INFINITE}) {
                    dueReal(22, x, negative, -size);
                }
            }
        }
        for (double y : new double[] {1, -1, 0.0, -0.0, INFINITE, -INFINITE, NO_NUMBER}) {
            dueReal(22, NO_NUMBER, y, NO_NUMBER);
        }
        dueDouble(22, MOST, -TINY, -MOST);
        dueFloat(22, -TINY_FLOAT, MOST_FLOAT, TINY_FLOAT);
    }

    // "OF ONE: 0 .. 8"
    private static void ofOneByNumber() {
        SpreadRules x = new SpreadRules();
        x.tensor(INTS);
        due("the first OF ONE", x.one(0, 0), 1);
        due("the last OF ONE", x.one(8, 0), 2);
        for (int op : new int[] {-1, 9, MIN, MAX}) {
            due("no OF ONE " + op, x.one(op, 0), BAD);
        }
        due("BAD is no FAILURE", x.count(3), 0);
        due("BAD makes none", x.count(0), 3);
    }

    // "0 0 less x (FLOATS, DOUBLES the other sign)": "TRUTHS as of INTS"
    private static void negatives() {
        for (int lane = BYTES; lane <= LONGS; lane++) {
            dueOne(0, lane, 0, lane, 0);
            dueOne(0, lane, 5, lane, -5);
            dueOne(0, lane, GREATEST[lane], lane, LEAST[lane] + 1);
            dueOne(0, lane, LEAST[lane] + 1, lane, GREATEST[lane]);
            dueOne(0, lane, LEAST[lane], lane, LEAST[lane]);
        }
        dueOne(0, TRUTHS, 1, INTS, -1);
        dueOne(0, TRUTHS, 0, INTS, 0);
        for (double v : new double[] {0.0, -0.0, 1, -2.5, INFINITE, -INFINITE}) {
            dueRealOne(0, v, -v);
        }
        dueRealOne(0, NO_NUMBER, NO_NUMBER);
    }

    // "1 its size"
    private static void sizes() {
        for (int lane = BYTES; lane <= LONGS; lane++) {
            dueOne(1, lane, 0, lane, 0);
            dueOne(1, lane, -5, lane, 5);
            dueOne(1, lane, GREATEST[lane], lane, GREATEST[lane]);
            dueOne(1, lane, LEAST[lane] + 1, lane, GREATEST[lane]);
            dueOne(1, lane, LEAST[lane], lane, LEAST[lane]);
        }
        dueOne(1, TRUTHS, 1, INTS, 1);
        dueOne(1, TRUTHS, 0, INTS, 0);
        for (double v : new double[] {0.0, 1, 2.5, INFINITE}) {
            dueRealOne(1, v, v);
            dueRealOne(1, -v, v);
        }
        dueRealOne(1, NO_NUMBER, NO_NUMBER);
    }

    // "2 -1, 0, 1 by its sign (zeros and no number stay)"
    private static void signs() {
        for (int lane = BYTES; lane <= LONGS; lane++) {
            dueOne(2, lane, 0, lane, 0);
            dueOne(2, lane, 1, lane, 1);
            dueOne(2, lane, -1, lane, -1);
            dueOne(2, lane, GREATEST[lane], lane, 1);
            dueOne(2, lane, LEAST[lane], lane, -1);
        }
        dueOne(2, TRUTHS, 1, INTS, 1);
        dueOne(2, TRUTHS, 0, INTS, 0);
        dueRealOne(2, 0.0, 0.0);
        dueRealOne(2, -0.0, -0.0);
        dueRealOne(2, NO_NUMBER, NO_NUMBER);
        for (double v : new double[] {0.5, 1, 300, INFINITE}) {
            dueRealOne(2, v, 1);
            dueRealOne(2, -v, -1);
        }
        dueDoubleOne(2, TINY, 1);
        dueDoubleOne(2, -TINY, -1);
        dueFloatOne(2, -TINY_FLOAT, -1);
    }

    /** "zeros, infinities, no number stay", and what is whole already. */
    private static void dueStays(int op) {
        for (double v : new double[] {0.0, -0.0, 1, -1, 2, -3, 8388608, -8388609, INFINITE, -INFINITE, NO_NUMBER}) {
            dueRealOne(op, v, v);
        }
        for (double v : new double[] {0x1p52, -0x1p52 - 1, 0x1p53, MOST, -MOST}) {
            dueDoubleOne(op, v, v);
        }
        dueFloatOne(op, MOST_FLOAT, MOST_FLOAT);
    }

    // "3 the greatest whole number not above"
    private static void wholeNumbersNotAbove() {
        dueStays(3);
        dueRealOne(3, 0.5, 0.0);
        dueRealOne(3, -0.5, -1);
        dueRealOne(3, 1.5, 1);
        dueRealOne(3, -1.5, -2);
        dueDoubleOne(3, TINY, 0.0);
        dueDoubleOne(3, -TINY, -1);
        dueDoubleOne(3, Math.nextDown(1.0), 0.0);
        dueDoubleOne(3, Math.nextDown(-1.0), -2);
        dueDoubleOne(3, 0x1p52 - 0.5, 0x1p52 - 1);
        dueDoubleOne(3, -0x1p52 + 0.5, -0x1p52);
        dueFloatOne(3, TINY_FLOAT, 0.0);
        dueFloatOne(3, -TINY_FLOAT, -1);
        dueFloatOne(3, 0x1p23 - 0.5, 0x1p23 - 1);
        dueFloatOne(3, -0x1p23 + 0.5, -0x1p23);
    }

    // "4 the least not below"; "4 to 6: -0.0 where that is 0 of one below 0"
    private static void wholeNumbersNotBelow() {
        dueStays(4);
        dueRealOne(4, 0.5, 1);
        dueRealOne(4, -0.5, -0.0);
        dueRealOne(4, 1.5, 2);
        dueRealOne(4, -1.5, -1);
        dueDoubleOne(4, TINY, 1);
        dueDoubleOne(4, -TINY, -0.0);
        dueDoubleOne(4, Math.nextUp(1.0), 2);
        dueDoubleOne(4, Math.nextUp(-1.0), -0.0);
        dueDoubleOne(4, 0x1p52 - 0.5, 0x1p52);
        dueFloatOne(4, TINY_FLOAT, 1);
        dueFloatOne(4, -TINY_FLOAT, -0.0);
        dueFloatOne(4, 0x1p23 - 0.5, 0x1p23);
    }

    // "5 the nearest (of two the even one)"
    private static void nearestWholeNumbers() {
        dueStays(5);
        double[][] halves = {{0.5, 0}, {1.5, 2}, {2.5, 2}, {3.5, 4}, {0.75, 1}, {0.25, 0}, {1.25, 1}, {1.75, 2}, {2.75, 3}};
        for (double[] h : halves) {
            dueRealOne(5, h[0], h[1]);
            dueRealOne(5, -h[0], -h[1]);
        }
        dueDoubleOne(5, Math.nextDown(0.5), 0.0);
        dueDoubleOne(5, Math.nextUp(0.5), 1);
        dueDoubleOne(5, -Math.nextDown(0.5), -0.0);
        dueDoubleOne(5, -Math.nextUp(0.5), -1);
        dueDoubleOne(5, Math.nextDown(1.5), 1);
        dueDoubleOne(5, Math.nextUp(2.5), 3);
        dueDoubleOne(5, TINY, 0.0);
        dueDoubleOne(5, -TINY, -0.0);
        dueDoubleOne(5, 0x1p52 - 0.5, 0x1p52);
        dueDoubleOne(5, 0x1p52 - 1.5, 0x1p52 - 2);
        dueFloatOne(5, Math.nextDown(0.5f), 0.0);
        dueFloatOne(5, Math.nextUp(0.5f), 1);
        dueFloatOne(5, 0x1p23 - 0.5, 0x1p23);
        dueFloatOne(5, 0x1p23 - 1.5, 0x1p23 - 2);
        dueFloatOne(5, -TINY_FLOAT, -0.0);
    }

    // "6 cut"
    private static void cutNumbers() {
        dueStays(6);
        double[][] cuts = {{0.5, 0}, {0.75, 0}, {1.5, 1}, {2.75, 2}};
        for (double[] c : cuts) {
            dueRealOne(6, c[0], c[1]);
            dueRealOne(6, -c[0], -c[1]);
        }
        dueDoubleOne(6, Math.nextDown(1.0), 0.0);
        dueDoubleOne(6, Math.nextUp(-1.0), -0.0);
        dueDoubleOne(6, TINY, 0.0);
        dueDoubleOne(6, -TINY, -0.0);
        dueDoubleOne(6, -0x1p52 + 0.5, -0x1p52 + 1);
        dueFloatOne(6, -TINY_FLOAT, -0.0);
        dueFloatOne(6, 0x1p23 - 0.5, 0x1p23 - 1);
    }

    // "whole LANES, TRUTHS: x"
    private static void wholesStayAsTheyAre() {
        for (int op = 3; op <= 6; op++) {
            for (int lane = TRUTHS; lane <= LONGS; lane++) {
                dueOne(op, lane, 0, lane, 0);
                dueOne(op, lane, 1, lane, 1);
                dueOne(op, lane, LEAST[lane], lane, LEAST[lane]);
                dueOne(op, lane, GREATEST[lane], lane, GREATEST[lane]);
            }
            dueOne(op, LONGS, (1L << 53) + 1, LONGS, (1L << 53) + 1);
        }
    }

    // "7 not (TRUTHS; whole LANES each bit; FLOATS, DOUBLES: FAILURE 4)"
    private static void not() {
        dueOne(7, TRUTHS, 0, TRUTHS, 1);
        dueOne(7, TRUTHS, 1, TRUTHS, 0);
        for (int lane = BYTES; lane <= LONGS; lane++) {
            dueOne(7, lane, 0, lane, -1);
            dueOne(7, lane, -1, lane, 0);
            dueOne(7, lane, 5, lane, -6);
            dueOne(7, lane, LEAST[lane], lane, GREATEST[lane]);
            dueOne(7, lane, GREATEST[lane], lane, LEAST[lane]);
        }
        for (int lane = FLOATS; lane <= DOUBLES; lane++) {
            SpreadRules x = new SpreadRules();
            x.tensor(lane);
            x.shaped(lane, 0, NONE, NONE);
            dueFailure("not of FLOATS, DOUBLES", x, 0, x.one(7, 0), OTHER_LANE, NONE);
            dueFailure("not of FLOATS, DOUBLES without ITEMS", x, 1, x.one(7, 1), OTHER_LANE, NONE);
            due("none was made", x.count(0), 2);
            due("6 beside it", x.one(6, 0), 2);
            due("8 beside it", x.one(8, 0), 3);
        }
    }

    // "8 whether it is no number: a TRUTH"
    private static void whetherNoNumber() {
        for (int lane = TRUTHS; lane <= LONGS; lane++) {
            dueOne(8, lane, 0, TRUTHS, 0);
            dueOne(8, lane, 1, TRUTHS, 0);
            dueOne(8, lane, LEAST[lane], TRUTHS, 0);
        }
        // As whole numbers, the bits of no number are numbers.
        dueOne(8, INTS, 0x7fc00000L, TRUTHS, 0);
        dueOne(8, LONGS, 0x7ff8000000000000L, TRUTHS, 0);
        dueOne(8, DOUBLES, 0x7fc00000L, TRUTHS, 0);
        for (int lane = FLOATS; lane <= DOUBLES; lane++) {
            for (double v : new double[] {0.0, -0.0, 1, -1, INFINITE, -INFINITE}) {
                dueOne(8, lane, told(lane, v), TRUTHS, 0);
            }
            dueOne(8, lane, told(lane, NO_NUMBER), TRUTHS, 1);
            dueOne(8, lane, told(lane, INFINITE) + 1, TRUTHS, 1);
            dueOne(8, lane, -1, TRUTHS, 1);
        }
    }
}
