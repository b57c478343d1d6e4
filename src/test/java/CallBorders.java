import java.util.function.ToLongFunction;

/**
 * The promises, sentence by sentence: for each call what is BAD, when it is FULL, which FAILURES it has and in which
 * order, at the last input that is allowed and at the first one that is not; and that nothing else changes then.
 */
public final class CallBorders extends Rows {
    // What an object has that is furnished; the first ten are its TENSORS' numbers.
    private static final int TRUTH = 0, INT_ROW = 1, LONG_ROW = 2, FLOAT_ROW = 3, ZEROS = 4, LONGER = 5, IS_GONE = 6, TALL = 7, WIDE = 8, MASK = 9;
    private static final int TENSORS = 10;

    private CallBorders() {
    }

    public static void main(String[] args) {
        newObject();
        objectsStandApart();
        tensorCalls();
        shapedCalls();
        freeCalls();
        settingCalls();
        itemCalls();
        bitsCalls();
        indexCalls();
        ofCalls();
        actCalls();
        actsInOrder();
        intoCalls();
        intoInOrder();
        intoByLanes();
        intoItself();
        oneCalls();
        castCalls();
        whereCalls();
        whereInOrder();
        whereChooses();
        whereGoesToTheJoinedLane();
        copyCalls();
        copyBorders();
        copyWithinOne();
        sameCalls();
        sameBorders();
        placeOfTheLatest();
        counts();
        countsRunOn();
        answersUpToTheLastCall();
        Due.end();
    }

    /** A call that takes a number of a TENSOR. */
    private interface CallOf {
        long on(SpreadRules x, int t);
    }

    /** VALUES in several LANES, other EXTENTS, one GONE, a FAILURE with a PLACE, and MISSING: all that a call could change. */
    private static SpreadRules furnished() {
        SpreadRules x = new SpreadRules();
        row(x, TRUTHS, 1, 0);
        row(x, INTS, 5, -6);
        row(x, LONGS, 7, Long.MIN_VALUE);
        row(x, FLOATS, f(1.5), f(-0.0));
        row(x, INTS, 1, 0);
        row(x, INTS, 1, 2, 3);
        row(x, INTS, 9);
        x.free(IS_GONE);
        x.shaped(INTS, 60, 1, NONE);
        x.shaped(INTS, 5, NONE, NONE);
        x.tensor(TRUTHS);
        x.into(4, INT_ROW, ZEROS, INT_ROW);
        x.setting(1);
        x.into(4, INT_ROW, ZEROS, ZEROS);
        x.setting(0);
        x.item(ZEROS, 0, 1);
        return x;
    }

    private static SpreadRules furnishedAndFull() {
        SpreadRules x = furnished();
        for (int t = TENSORS; t < 16; t++) {
            x.tensor(TRUTHS);
        }
        return x;
    }

    /** All that can be asked of an object, but for its FAILURES. */
    private static String stateOf(SpreadRules x) {
        StringBuilder s = new StringBuilder();
        int setting = x.setting(0);
        x.setting(setting);
        int tensors = x.count(0);
        s.append(tensors).append(' ').append(x.count(1)).append(' ').append(x.count(2)).append(' ').append(setting);
        for (int t = 0; t < tensors; t++) {
            if (t != IS_GONE) {
                int lane = x.of(t, 0);
                int items = x.of(t, 2);
                s.append("; ").append(lane).append(' ').append(x.of(t, 3)).append(' ').append(x.of(t, 4)).append(' ').append(x.of(t, 5));
                for (int n = 0; n < items; n++) {
                    s.append(' ').append(x.bits(t, n, lane));
                }
            }
        }
        return s.toString();
    }

    // "BAD .., FULL: ahead of all": they are no FAILURES, and change nothing.
    private static void dueRefused(String what, SpreadRules x, int want, ToLongFunction<SpreadRules> call) {
        String before = stateOf(x);
        int failures = x.count(3);
        int place = x.place();
        due(what, call.applyAsLong(x), want);
        due(what + ": FAILURES stay", x.count(3), failures);
        due(what + ": PLACE stays", x.place(), place);
        due(what + ": nothing changes", stateOf(x).equals(before) ? 1 : 0, 1);
    }

    private static void dueBad(String what, ToLongFunction<SpreadRules> call) {
        dueRefused(what, furnished(), BAD, call);
        dueRefused(what + ", when FULL", furnishedAndFull(), BAD, call);
    }

    private static void dueFull(String what, ToLongFunction<SpreadRules> call) {
        dueRefused(what, furnishedAndFull(), FULL, call);
    }

    // "BAD (no such TENSOR ..)": just before the first one, and just beyond the last one.
    private static void dueNoTensor(String what, CallOf call) {
        for (int t : new int[] {-1, TENSORS, TENSORS + 1, 15, 16, MIN, MAX}) {
            dueRefused(what + " of " + t, furnished(), BAD, x -> call.on(x, t));
        }
        for (int t : new int[] {-1, 16, 17, MIN, MAX}) {
            dueRefused(what + " of " + t + ", when FULL", furnishedAndFull(), BAD, x -> call.on(x, t));
        }
    }

    // "What FAILS changes nothing else": one FAILURE more, its PLACE, and no other difference.
    private static void dueFails(String what, int want, int place, ToLongFunction<SpreadRules> call) {
        for (int setting = 0; setting <= (want == BY_ZERO ? 0 : 1); setting++) {
            SpreadRules x = furnished();
            x.setting(setting);
            // The PLACE before is another one: 0 by unlike EXTENTS, or NONE.
            long earlier = place == 0 ? x.free(IS_GONE) : x.act(0, INT_ROW, LONGER);
            due(what + ": the FAILURE before", earlier, place == 0 ? GONE : OTHER_EXTENTS);
            String before = stateOf(x);
            int failures = x.count(3);
            due(what, call.applyAsLong(x), want);
            due(what + ": PLACE", x.place(), place);
            due(what + ": FAILURES", x.count(3), failures + 1);
            due(what + ": nothing else changes", stateOf(x).equals(before) ? 1 : 0, 1);
        }
    }

    // Promise 1: "No TENSORS; SETTING 0."
    private static void newObject() {
        SpreadRules x = new SpreadRules();
        due("new: PLACE", x.place(), NONE);
        for (int what = 0; what <= 3; what++) {
            due("new: count " + what, x.count(what), 0);
        }
        for (int t : new int[] {-1, 0, 1, 15, 16}) {
            due("new: no TENSOR " + t, x.of(t, 0), BAD);
        }
        due("new: SETTING", x.setting(0), 0);
        row(x, INTS, 0);
        due("new: by 0 FAILS", x.act(4, 0, 0), BY_ZERO);
        due("new: its first TENSOR", new SpreadRules().tensor(DOUBLES), 0);
    }

    private static void objectsStandApart() {
        SpreadRules x = furnished();
        x.setting(1);
        SpreadRules y = new SpreadRules();
        due("another object: TENSORS", y.count(0), 0);
        due("another object: SETTING", y.setting(0), 0);
        due("another object: PLACE", y.place(), NONE);
        String before = stateOf(x);
        row(y, INTS, 100, 200);
        y.free(0);
        y.free(0);
        due("the first object stays", stateOf(x).equals(before) ? 1 : 0, 1);
    }

    // Promise 2: "A TENSOR without EXTENTS: its number. BAD, FULL."
    private static void tensorCalls() {
        for (int lane : new int[] {-1, 6, MIN, MAX}) {
            dueBad("tensor of LANE " + lane, x -> x.tensor(lane));
        }
        for (int lane = TRUTHS; lane <= DOUBLES; lane++) {
            int given = lane;
            dueFull("tensor", x -> x.tensor(given));
            SpreadRules x = furnished();
            due("tensor", x.tensor(lane), TENSORS);
            dueExtents("tensor", x, TENSORS);
            dueRow("tensor", x, TENSORS, lane, 0);
            due("tensor: not GONE", x.count(1), TENSORS);
        }
    }

    // Promise 3: "BAD: also above 60, b NONE and c not. FAILURES 3; 6: more than 240 ITEMS."
    private static void shapedCalls() {
        for (int lane : new int[] {-1, 6, MIN, MAX}) {
            dueBad("shaped of LANE " + lane, x -> x.shaped(lane, 2, 2, 2));
            dueBad("shaped: BAD ahead of 3", x -> x.shaped(lane, -1, NONE, NONE));
        }
        dueBad("shaped: first above 60", x -> x.shaped(INTS, 61, NONE, NONE));
        dueBad("shaped: second above 60", x -> x.shaped(INTS, 1, 61, NONE));
        dueBad("shaped: third above 60", x -> x.shaped(INTS, 1, 1, 61));
        dueBad("shaped: above 60 ahead of below 0", x -> x.shaped(INTS, 61, -1, -1));
        dueBad("shaped: above 60 ahead of below 0", x -> x.shaped(INTS, -1, 61, -1));
        dueBad("shaped: above 60 ahead of below 0", x -> x.shaped(INTS, -1, -1, 61));
        dueBad("shaped: above 60 ahead of too many", x -> x.shaped(INTS, 60, 60, 61));
        dueBad("shaped: b NONE and c not", x -> x.shaped(INTS, 1, NONE, 1));
        dueBad("shaped: b NONE and c below 0", x -> x.shaped(INTS, 1, NONE, -1));
        dueBad("shaped: b NONE and c not ahead of below 0", x -> x.shaped(INTS, -1, NONE, 0));
        dueFull("shaped", x -> x.shaped(INTS, 60, 4, 1));
        dueFull("shaped: FULL ahead of 3", x -> x.shaped(INTS, -1, NONE, NONE));
        dueFull("shaped: FULL ahead of 3", x -> x.shaped(INTS, 1, 1, -1));
        dueFull("shaped: FULL ahead of 6", x -> x.shaped(INTS, 60, 60, NONE));
        dueFails("shaped: first below 0", BELOW_ZERO, NONE, x -> x.shaped(INTS, -1, NONE, NONE));
        dueFails("shaped: second below 0", BELOW_ZERO, NONE, x -> x.shaped(INTS, 0, -1, NONE));
        dueFails("shaped: third below 0", BELOW_ZERO, NONE, x -> x.shaped(INTS, 0, 0, -1));
        dueFails("shaped: two below 0 make no product", BELOW_ZERO, NONE, x -> x.shaped(INTS, -2, -2, 1));
        dueFails("shaped: 3 ahead of 6", BELOW_ZERO, NONE, x -> x.shaped(INTS, 60, 60, -1));
        dueFails("shaped: 3 ahead of 6", BELOW_ZERO, NONE, x -> x.shaped(INTS, -1, 60, 60));
        dueFails("shaped: more than 240", OTHER_EXTENTS, NONE, x -> x.shaped(INTS, 22, 11, NONE));
        dueFails("shaped: more than 240", OTHER_EXTENTS, NONE, x -> x.shaped(INTS, 60, 60, 60));
        SpreadRules x = furnished();
        due("shaped: its number", x.shaped(BYTES, 15, 16, NONE), TENSORS);
        dueExtents("shaped", x, TENSORS, 15, 16);
    }

    // Promise 4: "A TENSOR is GONE from now on: 1. BAD; FAILURE 1."
    private static void freeCalls() {
        dueNoTensor("free", (x, t) -> x.free(t));
        dueFails("free twice", GONE, NONE, x -> x.free(IS_GONE));
        SpreadRules x = furnished();
        due("free the first", x.free(0), 1);
        due("free the last", x.free(TENSORS - 1), 1);
        due("free: not GONE", x.count(1), TENSORS - 3);
        due("free: TENSORS", x.count(0), TENSORS);
        due("free: beside it", x.bits(INT_ROW, 0, INTS), 5);
        due("free: no FAILURE", x.count(3), 1);
        due("free: the next number", x.tensor(INTS), TENSORS);
    }

    // Promise 5: "SETTING (0, 1): what it was. BAD."
    private static void settingCalls() {
        for (int s : new int[] {-1, 2, NONE, MIN, MAX}) {
            for (int now = 0; now <= 1; now++) {
                SpreadRules x = furnished();
                x.setting(now);
                dueRefused("setting " + s, x, BAD, y -> y.setting(s));
                due("setting stays", x.setting(0), now);
            }
        }
        SpreadRules x = new SpreadRules();
        due("setting 0 at first", x.setting(1), 0);
        due("setting 1", x.setting(1), 1);
        due("setting 1", x.setting(0), 1);
        due("setting 0", x.setting(0), 0);
    }

    // Promise 6: "ITEM i is a VALUE of its LANE from now on: 1. BAD; FAILURES 1, 2."
    private static void itemCalls() {
        dueNoTensor("item", (x, t) -> x.item(t, 0, 1));
        dueNoTensor("item: BAD ahead of 2", (x, t) -> x.item(t, -1, 1));
        dueFails("item of what is GONE", GONE, NONE, x -> x.item(IS_GONE, 0, 1));
        dueFails("item: 1 ahead of 2", GONE, NONE, x -> x.item(IS_GONE, 1, 1));
        for (int i : new int[] {-1, 2, MIN, MAX}) {
            dueFails("item " + i, NO_ITEM, NONE, x -> x.item(INT_ROW, i, 77));
        }
        SpreadRules x = furnished();
        due("the first ITEM", x.item(INT_ROW, 0, 70), 1);
        due("the last ITEM", x.item(INT_ROW, 1, 71), 1);
        dueRow("item", x, INT_ROW, INTS, 70, 71);
        dueRow("item: beside it", x, LONG_ROW, LONGS, 7, Long.MIN_VALUE);
        dueRow("item: beside it", x, LONGER, INTS, 1, 2, 3);
    }

    // Promise 7: "ITEM i, the TENSOR being taken for one of a LANE. BAD; FAILURES 1, 4, 2"
    private static void bitsCalls() {
        dueNoTensor("bits", (x, t) -> x.bits(t, 0, TRUTHS));
        for (int lane : new int[] {-1, 6, MIN, MAX}) {
            dueRefused("bits of LANE " + lane, furnished(), BAD, x -> x.bits(INT_ROW, 0, lane));
            dueRefused("bits: BAD ahead of 1", furnished(), BAD, x -> x.bits(IS_GONE, 0, lane));
            dueRefused("bits: BAD ahead of 2", furnished(), BAD, x -> x.bits(INT_ROW, -1, lane));
        }
        dueFails("bits of what is GONE", GONE, NONE, x -> x.bits(IS_GONE, 0, INTS));
        dueFails("bits: 1 ahead of 4", GONE, NONE, x -> x.bits(IS_GONE, 0, LONGS));
        dueFails("bits: 1 ahead of 2", GONE, NONE, x -> x.bits(IS_GONE, 1, INTS));
        int[] ofLane = {TRUTH, NONE, INT_ROW, LONG_ROW, FLOAT_ROW};
        for (int t : new int[] {TRUTH, INT_ROW, LONG_ROW, FLOAT_ROW}) {
            for (int lane = TRUTHS; lane <= DOUBLES; lane++) {
                int given = lane;
                if (lane < ofLane.length && ofLane[lane] == t) {
                    dueFails("bits before the first", NO_ITEM, NONE, x -> x.bits(t, -1, given));
                    dueFails("bits beyond the last", NO_ITEM, NONE, x -> x.bits(t, 2, given));
                } else {
                    dueFails("bits of another LANE", OTHER_LANE, NONE, x -> x.bits(t, 0, given));
                    dueFails("bits: 4 ahead of 2", OTHER_LANE, NONE, x -> x.bits(t, 2, given));
                }
            }
        }
        SpreadRules x = furnished();
        due("the first", x.bits(INT_ROW, 0, INTS), 5);
        due("the last", x.bits(INT_ROW, 1, INTS), -6);
    }

    // Promise 8: "ITEM at indices, from the first EXTENT on (others do not count) .. FAILURES 1, 2: an index that is none."
    private static void indexCalls() {
        dueNoTensor("index", (x, t) -> x.index(t, 0, 0, 0));
        dueNoTensor("index: BAD ahead of 2", (x, t) -> x.index(t, -1, 0, 0));
        dueFails("index of what is GONE", GONE, NONE, x -> x.index(IS_GONE, 0, 0, 0));
        dueFails("index: 1 ahead of 2", GONE, NONE, x -> x.index(IS_GONE, 1, 0, 0));
        dueFails("first index below", NO_ITEM, NONE, x -> x.index(TALL, -1, 0, 0));
        dueFails("first index beyond", NO_ITEM, NONE, x -> x.index(TALL, 60, 0, 0));
        dueFails("second index below", NO_ITEM, NONE, x -> x.index(TALL, 0, -1, 0));
        dueFails("second index beyond", NO_ITEM, NONE, x -> x.index(TALL, 0, 1, 0));
        SpreadRules x = furnished();
        due("the first", x.index(TALL, 0, 0, 0), 0);
        due("the last", x.index(TALL, 59, 0, 0), 59);
        due("a third one does not count", x.index(TALL, 59, 0, MIN), 59);
        due("others do not count", x.index(WIDE, 4, -1, MAX), 4);
        x.tensor(INTS);
        due("none of them counts", x.index(TENSORS, -1, MAX, MIN), 0);
        x.shaped(INTS, 2, 3, 4);
        int t = TENSORS + 1;
        due("the last of three", x.index(t, 1, 2, 3), 23);
        int[][] none = {{2, 0, 0}, {0, 3, 0}, {0, 0, 4}, {-1, 0, 0}, {0, -1, 0}, {0, 0, -1}, {MAX, MAX, MAX}, {1, 2, MIN}, {0, 0, 23}};
        for (int[] n : none) {
            dueFailure("no such index", x, x.count(3), x.index(t, n[0], n[1], n[2]), NO_ITEM, NONE);
        }
        for (int zero = 0; zero < 3; zero++) {
            int empty = x.shaped(INTS, zero == 0 ? 0 : 2, zero == 1 ? 0 : 2, zero == 2 ? 0 : 2);
            due("an EXTENT of 0 has no index", x.index(empty, 0, 0, 0), NO_ITEM);
        }
    }

    // Promise 9: "0 its LANE, 1 how many EXTENTS, 2 how many ITEMS, 3 to 5 EXTENTS .. (NONE: there is none). BAD; FAILURE 1."
    private static void ofCalls() {
        dueNoTensor("of", (x, t) -> x.of(t, 0));
        for (int what : new int[] {-1, 6, MIN, MAX}) {
            dueRefused("of: what " + what, furnished(), BAD, x -> x.of(INT_ROW, what));
            dueRefused("of: BAD ahead of 1", furnished(), BAD, x -> x.of(IS_GONE, what));
        }
        for (int what = 0; what <= 5; what++) {
            int given = what;
            dueFails("of what is GONE", GONE, NONE, x -> x.of(IS_GONE, given));
        }
        int[][] shapes = {{}, {0}, {60}, {2, 0}, {60, 4}, {0, 0, 0}, {1, 1, 1}, {4, 6, 10}};
        for (int[] e : shapes) {
            SpreadRules x = new SpreadRules();
            extents(x, FLOATS, e);
            due("of: LANE", x.of(0, 0), FLOATS);
            dueExtents("of", x, 0, e);
            due("of: no FAILURE where there is none", x.count(3), 0);
        }
    }

    // Promise 10: "BAD, FULL; FAILURES 1, 4, 6 (also more than 240 ITEMS: PLACE NONE), 5."
    private static void actCalls() {
        dueNoTensor("act", (x, t) -> x.act(0, t, MASK));
        dueNoTensor("act", (x, t) -> x.act(0, MASK, t));
        dueNoTensor("act: BAD ahead of 1", (x, t) -> x.act(0, IS_GONE, t));
        for (int op : new int[] {-1, 23, MIN, MAX}) {
            dueBad("act " + op, x -> x.act(op, INT_ROW, INT_ROW));
            dueBad("act: BAD ahead of 1", x -> x.act(op, IS_GONE, INT_ROW));
        }
        dueFull("act", x -> x.act(0, INT_ROW, INT_ROW));
        dueFull("act: FULL ahead of 1", x -> x.act(0, IS_GONE, INT_ROW));
        dueFull("act: FULL ahead of 4", x -> x.act(12, FLOAT_ROW, INT_ROW));
        dueFull("act: FULL ahead of 6", x -> x.act(0, LONGER, INT_ROW));
        dueFull("act: FULL ahead of 5", x -> x.act(4, INT_ROW, ZEROS));
        dueFails("act of what is GONE", GONE, NONE, x -> x.act(0, IS_GONE, INT_ROW));
        dueFails("act of what is GONE", GONE, NONE, x -> x.act(0, INT_ROW, IS_GONE));
        dueFails("act of what is GONE", GONE, NONE, x -> x.act(0, IS_GONE, IS_GONE));
        dueFails("act of another LANE", OTHER_LANE, NONE, x -> x.act(12, INT_ROW, FLOAT_ROW));
        dueFails("act of unlike EXTENTS", OTHER_EXTENTS, 0, x -> x.act(0, LONGER, INT_ROW));
        dueFails("act of more than 240", OTHER_EXTENTS, NONE, x -> x.act(0, TALL, WIDE));
        dueFails("act by 0", BY_ZERO, 1, x -> x.act(4, INT_ROW, ZEROS));
    }

    // "of several the first told with a call"
    private static void actsInOrder() {
        dueFails("act: 1 ahead of 4", GONE, NONE, x -> x.act(12, IS_GONE, FLOAT_ROW));
        dueFails("act: 1 ahead of 4", GONE, NONE, x -> x.act(12, FLOAT_ROW, IS_GONE));
        dueFails("act: 1 ahead of 5", GONE, NONE, x -> x.act(4, IS_GONE, ZEROS));
        dueFails("act: 4 ahead of 6", OTHER_LANE, NONE, x -> x.act(12, FLOAT_ROW, LONGER));
        dueFails("act: 4 ahead of 6", OTHER_LANE, NONE, x -> x.act(15, LONGER, FLOAT_ROW));
        dueFails("act: 6 ahead of 5", OTHER_EXTENTS, 0, x -> x.act(4, LONGER, ZEROS));
        dueFails("act: 6 ahead of 5, too many", OTHER_EXTENTS, NONE, x -> x.act(4, WIDE, TALL));
        SpreadRules x = new SpreadRules();
        x.shaped(INTS, 60, 1, 2);
        x.shaped(INTS, 4, 3, NONE);
        x.shaped(INTS, 2, 1, 60);
        x.shaped(INTS, 3, 5, 1);
        dueFailure("act: an UNLIKE AXIS ahead of too many", x, 0, x.act(4, 0, 1), OTHER_EXTENTS, 0);
        dueFailure("act: an UNLIKE AXIS behind too many", x, 1, x.act(4, 2, 3), OTHER_EXTENTS, 2);
    }

    // Promise 11: "BAD; FAILURES 1, 4, 6 (by SPREAD; then: it has other EXTENTS: PLACE NONE), 4 (..), 5."
    private static void intoCalls() {
        dueNoTensor("into", (x, t) -> x.into(0, t, MASK, INT_ROW));
        dueNoTensor("into", (x, t) -> x.into(0, MASK, t, INT_ROW));
        dueNoTensor("into", (x, t) -> x.into(8, MASK, MASK, t));
        dueNoTensor("into: BAD ahead of 1", (x, t) -> x.into(0, IS_GONE, INT_ROW, t));
        for (int op : new int[] {-1, 23, MIN, MAX}) {
            dueBad("into by " + op, x -> x.into(op, INT_ROW, INT_ROW, INT_ROW));
            dueBad("into: BAD ahead of 1", x -> x.into(op, INT_ROW, INT_ROW, IS_GONE));
        }
        SpreadRules full = furnishedAndFull();
        due("into is never FULL", full.into(0, INT_ROW, INT_ROW, INT_ROW), 1);
        dueRow("into", full, INT_ROW, INTS, 10, -12);
        due("into makes none", full.count(0), 16);
        dueFails("into of what is GONE", GONE, NONE, x -> x.into(0, IS_GONE, INT_ROW, INT_ROW));
        dueFails("into of what is GONE", GONE, NONE, x -> x.into(0, INT_ROW, IS_GONE, INT_ROW));
        dueFails("into what is GONE", GONE, NONE, x -> x.into(0, INT_ROW, INT_ROW, IS_GONE));
        dueFails("into by another LANE", OTHER_LANE, NONE, x -> x.into(12, INT_ROW, FLOAT_ROW, FLOAT_ROW));
        dueFails("into of unlike EXTENTS", OTHER_EXTENTS, 0, x -> x.into(0, INT_ROW, LONGER, INT_ROW));
        dueFails("into of more than 240", OTHER_EXTENTS, NONE, x -> x.into(0, TALL, WIDE, INT_ROW));
        dueFails("into other EXTENTS", OTHER_EXTENTS, NONE, x -> x.into(0, INT_ROW, INT_ROW, LONGER));
        dueFails("into an EXTENT of 1 that would have to be SPREAD", OTHER_EXTENTS, NONE, x -> x.into(0, TALL, INT_ROW, TALL));
        dueFails("into another LANE", OTHER_LANE, NONE, x -> x.into(0, LONG_ROW, INT_ROW, INT_ROW));
        dueFails("into by 0", BY_ZERO, 1, x -> x.into(4, INT_ROW, ZEROS, INT_ROW));
    }

    private static void intoInOrder() {
        dueFails("into: 1 ahead of 4", GONE, NONE, x -> x.into(12, FLOAT_ROW, FLOAT_ROW, IS_GONE));
        dueFails("into: 1 ahead of 6", GONE, NONE, x -> x.into(0, LONGER, INT_ROW, IS_GONE));
        dueFails("into: 4 ahead of 6 by SPREAD", OTHER_LANE, NONE, x -> x.into(12, FLOAT_ROW, LONGER, FLOAT_ROW));
        dueFails("into: 4 ahead of other EXTENTS", OTHER_LANE, NONE, x -> x.into(12, FLOAT_ROW, FLOAT_ROW, LONGER));
        dueFails("into: 6 by SPREAD ahead of other EXTENTS", OTHER_EXTENTS, 0, x -> x.into(0, INT_ROW, LONGER, WIDE));
        dueFails("into: 6 by SPREAD ahead of the target's LANE", OTHER_EXTENTS, 0, x -> x.into(0, LONG_ROW, LONGER, INT_ROW));
        dueFails("into: other EXTENTS ahead of the target's LANE", OTHER_EXTENTS, NONE, x -> x.into(0, LONG_ROW, LONG_ROW, LONGER));
        dueFails("into: other EXTENTS ahead of 5", OTHER_EXTENTS, NONE, x -> x.into(4, INT_ROW, ZEROS, LONGER));
        dueFails("into: the target's LANE ahead of 5", OTHER_LANE, NONE, x -> x.into(4, LONG_ROW, ZEROS, INT_ROW));
        dueFails("into: the target's LANE ahead of 5", OTHER_LANE, NONE, x -> x.into(4, INT_ROW, ZEROS, FLOAT_ROW));
    }

    // "4 (the result's LANE is greater than its, or INTS, LONGS for FLOATS)"
    private static void intoByLanes() {
        for (int result = TRUTHS; result <= DOUBLES; result++) {
            for (int target = TRUTHS; target <= DOUBLES; target++) {
                SpreadRules x = new SpreadRules();
                x.tensor(result);
                x.tensor(target);
                x.item(0, 0, told(result, 1));
                boolean allowed = result <= target && !(target == FLOATS && (result == INTS || result == LONGS));
                due("LANE " + result + " into " + target, x.into(9, 0, 0, 1), allowed ? 1 : OTHER_LANE);
                dueRow("LANE " + result + " into " + target, x, 1, target, allowed ? told(target, 1) : 0);
                due("place", x.place(), NONE);
                due("FAILURES", x.count(3), allowed ? 0 : 1);
                due("TRUTHS go into " + target, x.into(20, 0, 0, 1), 1);
                dueRow("TRUTHS into " + target, x, 1, target, told(target, 1));
            }
        }
        SpreadRules x = new SpreadRules();
        x.tensor(LONGS);
        x.item(0, 0, (1L << 53) + 1);
        x.tensor(DOUBLES);
        due("LONGS into DOUBLES", x.into(9, 0, 0, 1), 1);
        dueDoubles("LONGS into DOUBLES are rounded", x, 1, 0x1p53);
        x.tensor(BYTES);
        x.item(2, 0, 127);
        x.tensor(INTS);
        due("BYTES into INTS", x.into(0, 2, 2, 3), 1);
        dueRow("BYTES run over before they go in", x, 3, INTS, -2);
    }

    // A target may be one of those that are acted on: all is reckoned before anything goes in.
    private static void intoItself() {
        SpreadRules x = new SpreadRules();
        row(x, INTS, 1, 2, 3);
        x.tensor(INTS);
        x.item(1, 0, 10);
        due("into the first", x.into(1, 0, 1, 0), 1);
        dueRow("into the first", x, 0, INTS, -9, -8, -7);
        due("into the second", x.into(1, 1, 0, 0), 1);
        dueRow("into the second", x, 0, INTS, 19, 18, 17);
        due("into both", x.into(2, 0, 0, 0), 1);
        dueRow("into both", x, 0, INTS, 361, 324, 289);
        due("into one without EXTENTS", x.into(0, 1, 1, 1), 1);
        dueRow("into one without EXTENTS", x, 1, INTS, 20);
        due("a row into one without EXTENTS", x.into(0, 0, 1, 1), OTHER_EXTENTS);
        x.shaped(INTS, 1, NONE, NONE);
        due("one EXTENT of 1 into none", x.into(0, 2, 1, 1), OTHER_EXTENTS);
        due("none into one EXTENT of 1", x.into(0, 1, 1, 2), OTHER_EXTENTS);
        due("one EXTENT of 1", x.into(0, 2, 1, 2), 1);
        dueRow("one EXTENT of 1", x, 2, INTS, 20);
        x.shaped(INTS, 1, 3, NONE);
        due("two EXTENTS are not one", x.into(0, 0, 0, 3), OTHER_EXTENTS);
        due("with two it goes in", x.into(0, 0, 3, 3), 1);
        dueRow("with two it goes in", x, 3, INTS, 361, 324, 289);
    }

    // Promise 12: "OF ONE: a new TENSOR with its EXTENTS. BAD, FULL; FAILURES 1, 4."
    private static void oneCalls() {
        for (int op : new int[] {-1, 9, MIN, MAX}) {
            dueBad("one " + op, x -> x.one(op, INT_ROW));
            dueBad("one: BAD ahead of 1", x -> x.one(op, IS_GONE));
        }
        dueNoTensor("one", (x, t) -> x.one(0, t));
        dueFull("one", x -> x.one(0, INT_ROW));
        dueFull("one: FULL ahead of 1", x -> x.one(0, IS_GONE));
        dueFull("one: FULL ahead of 4", x -> x.one(7, FLOAT_ROW));
        dueFails("one of what is GONE", GONE, NONE, x -> x.one(0, IS_GONE));
        dueFails("one of another LANE", OTHER_LANE, NONE, x -> x.one(7, FLOAT_ROW));
        SpreadRules gone = new SpreadRules();
        gone.tensor(DOUBLES);
        gone.free(0);
        dueFailure("one: 1 ahead of 4", gone, 0, gone.one(7, 0), GONE, NONE);
        int[][] shapes = {{}, {1}, {60}, {60, 4}, {4, 6, 10}, {0, 60}, {1, 1, 1}};
        for (int[] e : shapes) {
            SpreadRules x = new SpreadRules();
            extents(x, BYTES, e);
            x.shaped(BYTES, 3, 5, 7);
            due("one: its number", x.one(7, 0), 2);
            dueExtents("one", x, 2, e);
            int items = x.of(2, 2);
            due("one: the first", x.bits(2, 0, BYTES), items == 0 ? NO_ITEM : -1);
            due("one: the last", x.bits(2, items - 1, BYTES), items == 0 ? NO_ITEM : -1);
            due("one leaves the other", x.bits(0, 0, BYTES), items == 0 ? NO_ITEM : 0);
        }
    }

    // Promise 13: "A new one of a LANE: each ITEM goes TO it. BAD, FULL; FAILURE 1."
    private static void castCalls() {
        for (int lane : new int[] {-1, 6, MIN, MAX}) {
            dueBad("cast to " + lane, x -> x.cast(INT_ROW, lane));
            dueBad("cast: BAD ahead of 1", x -> x.cast(IS_GONE, lane));
        }
        dueNoTensor("cast", (x, t) -> x.cast(t, INTS));
        dueFull("cast", x -> x.cast(INT_ROW, LONGS));
        dueFull("cast: FULL ahead of 1", x -> x.cast(IS_GONE, LONGS));
        dueFails("cast of what is GONE", GONE, NONE, x -> x.cast(IS_GONE, LONGS));
        int[][] shapes = {{}, {1}, {60}, {60, 4}, {4, 6, 10}, {0, 60}, {1, 1, 1}};
        for (int[] e : shapes) {
            SpreadRules x = new SpreadRules();
            extents(x, INTS, e);
            for (int lane = TRUTHS; lane <= DOUBLES; lane++) {
                x.shaped(BYTES, 3, 5, 7);
                due("cast: its number", x.cast(0, lane), 2 * lane + 2);
                dueExtents("cast", x, 2 * lane + 2, e);
            }
            due("cast to its own LANE is like it", x.same(0, 2 * INTS + 2), 1);
        }
        SpreadRules x = furnished();
        int copy = x.cast(INT_ROW, INTS);
        x.item(copy, 0, 99);
        dueRow("cast: another one", x, INT_ROW, INTS, 5, -6);
    }

    // Promise 14: "BAD, FULL; FAILURES 1, 4 (the mask), 6."
    private static void whereCalls() {
        dueNoTensor("where", (x, t) -> x.where(t, INT_ROW, INT_ROW));
        dueNoTensor("where", (x, t) -> x.where(TRUTH, t, INT_ROW));
        dueNoTensor("where", (x, t) -> x.where(TRUTH, INT_ROW, t));
        dueNoTensor("where: BAD ahead of 1", (x, t) -> x.where(IS_GONE, INT_ROW, t));
        dueFull("where", x -> x.where(TRUTH, INT_ROW, INT_ROW));
        dueFull("where: FULL ahead of 1", x -> x.where(TRUTH, IS_GONE, INT_ROW));
        dueFull("where: FULL ahead of 4", x -> x.where(INT_ROW, INT_ROW, INT_ROW));
        dueFull("where: FULL ahead of 6", x -> x.where(TRUTH, LONGER, INT_ROW));
        dueFails("where by what is GONE", GONE, NONE, x -> x.where(IS_GONE, INT_ROW, INT_ROW));
        dueFails("where of what is GONE", GONE, NONE, x -> x.where(TRUTH, IS_GONE, INT_ROW));
        dueFails("where of what is GONE", GONE, NONE, x -> x.where(TRUTH, INT_ROW, IS_GONE));
        for (int mask : new int[] {INT_ROW, LONG_ROW, FLOAT_ROW}) {
            dueFails("where by another LANE", OTHER_LANE, NONE, x -> x.where(mask, INT_ROW, INT_ROW));
        }
        dueFails("where of unlike EXTENTS", OTHER_EXTENTS, 0, x -> x.where(TRUTH, LONGER, INT_ROW));
        dueFails("where by an unlike mask", OTHER_EXTENTS, 0, x -> x.where(TRUTH, LONGER, LONGER));
        dueFails("where of more than 240 by a, b", OTHER_EXTENTS, NONE, x -> x.where(MASK, TALL, WIDE));
    }

    private static void whereInOrder() {
        dueFails("where: 1 ahead of 4", GONE, NONE, x -> x.where(INT_ROW, IS_GONE, INT_ROW));
        dueFails("where: 1 ahead of 6", GONE, NONE, x -> x.where(IS_GONE, LONGER, INT_ROW));
        dueFails("where: 4 ahead of 6", OTHER_LANE, NONE, x -> x.where(INT_ROW, LONGER, INT_ROW));
        dueFails("where: 4 ahead of 6, too many", OTHER_LANE, NONE, x -> x.where(INT_ROW, TALL, WIDE));
        SpreadRules x = new SpreadRules();
        x.shaped(TRUTHS, 5, NONE, NONE);
        x.shaped(INTS, 2, 3, NONE);
        x.shaped(INTS, 4, 3, NONE);
        dueFailure("where: a and b are SPREAD first", x, 0, x.where(0, 1, 2), OTHER_EXTENTS, 1);
        dueFailure("where: then the mask", x, 1, x.where(0, 1, 1), OTHER_EXTENTS, 0);
    }

    // "of a where it is true, of b where not"; "EXTENTS: a and b SPREAD, and the mask SPREAD with that"
    private static void whereChooses() {
        SpreadRules x = new SpreadRules();
        row(x, TRUTHS, 1, 0, 1);
        row(x, INTS, 1, 2, 3);
        row(x, INTS, 10, 20, 30);
        dueRow("where", x, x.where(0, 1, 2), INTS, 1, 20, 3);
        dueRow("where, the other way round", x, x.where(0, 2, 1), INTS, 10, 2, 30);
        x.shaped(TRUTHS, 2, 1, NONE);
        x.item(5, 0, 1);
        due("the mask has more EXTENTS", x.where(5, 1, 2), 6);
        dueExtents("the mask has more EXTENTS", x, 6, 2, 3);
        dueRow("the mask has more EXTENTS", x, 6, INTS, 1, 2, 3, 10, 20, 30);
        x.tensor(TRUTHS);
        due("the mask has none", x.where(7, 1, 2), 8);
        dueExtents("the mask has none", x, 8, 3);
        dueRow("the mask has none: false", x, 8, INTS, 10, 20, 30);
        x.item(7, 0, 1);
        dueRow("the mask has none: true", x, x.where(7, 1, 2), INTS, 1, 2, 3);
        x.shaped(INTS, 2, 1, 1);
        x.item(10, 0, 7);
        x.item(10, 1, 8);
        due("a and b are SPREAD", x.where(0, 10, 1), 11);
        dueExtents("a and b are SPREAD", x, 11, 2, 1, 3);
        dueRow("a and b are SPREAD", x, 11, INTS, 7, 2, 7, 8, 2, 8);
        x.shaped(TRUTHS, 1, 1, 1);
        due("of like ones", x.where(12, 10, 10), 13);
        dueExtents("of like ones", x, 13, 2, 1, 1);
        x.shaped(TRUTHS, 0, NONE, NONE);
        dueFailure("a mask of 0 by 3", x, 0, x.where(14, 1, 1), OTHER_EXTENTS, 0);
        due("a mask of 0 by 1", x.where(14, 10, 10), 15);
        dueExtents("a mask of 0 by 1", x, 15, 2, 1, 0);
    }

    // "gone TO the JOINED LANE": also where only one of both is chosen.
    private static void whereGoesToTheJoinedLane() {
        SpreadRules x = new SpreadRules();
        row(x, TRUTHS, 1, 0);
        row(x, LONGS, (1L << 53) + 1, 3);
        row(x, FLOATS, f(0.1f), f(NO_NUMBER));
        dueDoubles("LONGS, FLOATS", x, x.where(0, 1, 2), 0x1p53, NO_NUMBER);
        dueDoubles("FLOATS, LONGS", x, x.where(0, 2, 1), 0.1f, 3);
        row(x, BYTES, -128, 127);
        dueFloats("BYTES, FLOATS", x, x.where(0, 5, 2), -128, NO_NUMBER);
        dueRow("TRUTHS, BYTES", x, x.where(0, 0, 5), BYTES, 1, 127);
        dueRow("TRUTHS, TRUTHS", x, x.where(0, 0, 0), TRUTHS, 1, 0);
        dueRow("BYTES, LONGS", x, x.where(0, 5, 1), LONGS, -128, 3);
        x.shaped(TRUTHS, 0, 1, 1);
        due("without ITEMS the LANE is JOINED, too", x.of(x.where(10, 1, 2), 0), DOUBLES);
    }

    // Promise 15: "BAD; FAILURES 1, 4: other LANES, 2: i, j, n below 0, or not so many ITEMS."
    private static void copyCalls() {
        dueNoTensor("copy", (x, t) -> x.copy(t, 0, TRUTH, 0, 1));
        dueNoTensor("copy", (x, t) -> x.copy(TRUTH, 0, t, 0, 1));
        dueNoTensor("copy: BAD ahead of 1", (x, t) -> x.copy(IS_GONE, 0, t, 0, 1));
        dueNoTensor("copy: BAD ahead of 2", (x, t) -> x.copy(TRUTH, -1, t, -1, -1));
        dueFails("copy of what is GONE", GONE, NONE, x -> x.copy(IS_GONE, 0, INT_ROW, 0, 1));
        dueFails("copy to what is GONE", GONE, NONE, x -> x.copy(INT_ROW, 0, IS_GONE, 0, 1));
        dueFails("copy: 1 ahead of 4", GONE, NONE, x -> x.copy(LONG_ROW, 0, IS_GONE, 0, 1));
        dueFails("copy: 1 ahead of 2", GONE, NONE, x -> x.copy(IS_GONE, -1, INT_ROW, 0, 1));
        dueFails("copy to another LANE", OTHER_LANE, NONE, x -> x.copy(INT_ROW, 0, LONG_ROW, 0, 1));
        dueFails("copy to a lesser LANE", OTHER_LANE, NONE, x -> x.copy(LONG_ROW, 0, INT_ROW, 0, 1));
        dueFails("copy of nothing to another LANE", OTHER_LANE, NONE, x -> x.copy(INT_ROW, 0, LONG_ROW, 0, 0));
        dueFails("copy: 4 ahead of 2", OTHER_LANE, NONE, x -> x.copy(INT_ROW, -1, FLOAT_ROW, 0, 1));
        for (int below : new int[] {-1, MIN}) {
            dueFails("copy: i below 0", NO_ITEM, NONE, x -> x.copy(INT_ROW, below, LONGER, 0, 1));
            dueFails("copy: j below 0", NO_ITEM, NONE, x -> x.copy(INT_ROW, 0, LONGER, below, 1));
            dueFails("copy: n below 0", NO_ITEM, NONE, x -> x.copy(INT_ROW, 0, LONGER, 0, below));
            dueFails("copy: i below 0, n 0", NO_ITEM, NONE, x -> x.copy(INT_ROW, below, LONGER, 0, 0));
            dueFails("copy: j below 0, n 0", NO_ITEM, NONE, x -> x.copy(INT_ROW, 0, LONGER, below, 0));
        }
        dueFails("copy: not so many from i on", NO_ITEM, NONE, x -> x.copy(INT_ROW, 1, LONGER, 0, 2));
        dueFails("copy: not so many from j on", NO_ITEM, NONE, x -> x.copy(LONGER, 0, INT_ROW, 1, 2));
        dueFails("copy: not so many in all", NO_ITEM, NONE, x -> x.copy(INT_ROW, 0, LONGER, 0, 3));
        dueFails("copy: not so many within one", NO_ITEM, NONE, x -> x.copy(LONGER, 0, LONGER, 1, 3));
        dueFails("copy: sums that run over", NO_ITEM, NONE, x -> x.copy(LONGER, 1, LONGER, 1, MAX));
        dueFails("copy: sums that run over", NO_ITEM, NONE, x -> x.copy(LONGER, MAX, LONGER, 0, 1));
        dueFails("copy: sums that run over", NO_ITEM, NONE, x -> x.copy(LONGER, 0, LONGER, MAX, MAX));
    }

    // "n ITEMS of one from i on come to another one .. from j on: n"
    private static void copyBorders() {
        for (int i = 0; i <= 4; i++) {
            for (int j = 0; j <= 6; j++) {
                for (int n = 0; n <= 5; n++) {
                    SpreadRules x = new SpreadRules();
                    row(x, BYTES, 1, 2, 3);
                    x.shaped(BYTES, 5, 1, NONE);
                    boolean allowed = i + n <= 3 && j + n <= 5;
                    due("copy from " + i + " to " + j + ", " + n, x.copy(0, i, 1, j, n), allowed ? n : NO_ITEM);
                    for (int at = 0; at < 5; at++) {
                        boolean reached = allowed && at >= j && at < j + n;
                        due("copy: ITEM " + at, x.bits(1, at, BYTES), reached ? i + at - j + 1 : 0);
                    }
                    dueRow("copy leaves the other", x, 0, BYTES, 1, 2, 3);
                    due("copy: FAILURES", x.count(3), allowed ? 0 : 1);
                }
            }
        }
        SpreadRules x = new SpreadRules();
        x.shaped(INTS, 60, 4, NONE);
        x.shaped(INTS, 4, 6, 10);
        x.item(0, 239, 5);
        due("copy all 240", x.copy(0, 0, 1, 0, 240), 240);
        due("copy the last", x.bits(1, 239, INTS), 5);
        due("copy 241", x.copy(0, 0, 1, 0, 241), NO_ITEM);
        for (int lane = TRUTHS; lane <= DOUBLES; lane++) {
            SpreadRules y = new SpreadRules();
            row(y, lane, told(lane, 1), told(lane, NO_NUMBER));
            y.shaped(lane, 2, NONE, NONE);
            due("copy in LANE " + lane, y.copy(0, 0, 1, 0, 2), 2);
            due("copy in LANE " + lane, y.same(0, 1), 1);
        }
    }

    // "(or the same, as if by way of others)"
    private static void copyWithinOne() {
        for (int i = 0; i <= 5; i++) {
            for (int j = 0; j <= 5; j++) {
                int n = 5 - Math.max(i, j);
                SpreadRules x = new SpreadRules();
                row(x, LONGS, 1, 2, 3, 4, 5);
                long[] want = {1, 2, 3, 4, 5};
                for (int at = 0; at < n; at++) {
                    want[j + at] = i + at + 1;
                }
                due("copy within one from " + i + " to " + j, x.copy(0, i, 0, j, n), n);
                dueRow("copy within one from " + i + " to " + j, x, 0, LONGS, want);
                due("copy within one, one more", x.copy(0, i, 0, j, n + 1), NO_ITEM);
            }
        }
    }

    // Promise 16: "BAD; FAILURE 1."
    private static void sameCalls() {
        dueNoTensor("same", (x, t) -> x.same(t, INT_ROW));
        dueNoTensor("same", (x, t) -> x.same(INT_ROW, t));
        dueNoTensor("same: BAD ahead of 1", (x, t) -> x.same(IS_GONE, t));
        dueFails("same of what is GONE", GONE, NONE, x -> x.same(IS_GONE, INT_ROW));
        dueFails("same of what is GONE", GONE, NONE, x -> x.same(INT_ROW, IS_GONE));
        dueFails("same of what is GONE", GONE, NONE, x -> x.same(IS_GONE, IS_GONE));
        dueFails("same of what is GONE, other LANES", GONE, NONE, x -> x.same(IS_GONE, LONG_ROW));
    }

    // "Whether two have like LANES, EXTENTS, VALUES: 1, 0."
    private static void sameBorders() {
        int[][] shapes = {{}, {1}, {1, 1}, {1, 1, 1}, {2}, {2, 1}, {1, 2}, {1, 2, 1}, {0}, {0, 2}, {2, 0}, {0, 0}, {0, 3}};
        for (int a = 0; a < shapes.length; a++) {
            for (int b = 0; b < shapes.length; b++) {
                SpreadRules x = new SpreadRules();
                extents(x, INTS, shapes[a]);
                extents(x, INTS, shapes[b]);
                due("same: EXTENTS", x.same(0, 1), a == b ? 1 : 0);
            }
        }
        for (int a = TRUTHS; a <= DOUBLES; a++) {
            for (int b = TRUTHS; b <= DOUBLES; b++) {
                SpreadRules x = new SpreadRules();
                x.tensor(a);
                x.tensor(b);
                due("same: LANES", x.same(0, 1), a == b ? 1 : 0);
                x.shaped(a, 0, NONE, NONE);
                x.shaped(b, 0, NONE, NONE);
                due("same: LANES without ITEMS", x.same(2, 3), a == b ? 1 : 0);
            }
        }
        SpreadRules x = new SpreadRules();
        row(x, INTS, 1, 2, 3);
        for (int n = 0; n < 3; n++) {
            int other = row(x, INTS, 1, 2, 3);
            due("same: VALUES", x.same(0, other), 1);
            x.item(other, n, 9);
            due("same: one VALUE is another one", x.same(0, other), 0);
            due("same: one VALUE is another one", x.same(other, 0), 0);
        }
        due("same: itself", x.same(0, 0), 1);
        for (int lane = FLOATS; lane <= DOUBLES; lane++) {
            SpreadRules y = new SpreadRules();
            row(y, lane, told(lane, NO_NUMBER), 0);
            row(y, lane, -1, 0);
            row(y, lane, -1, told(lane, -0.0));
            due("same: no number is told in one way", y.same(0, 1), 1);
            due("same: the zeros are told in two", y.same(1, 2), 0);
        }
    }

    // Promise 17: "PLACE of the latest FAILURE; NONE before any."
    private static void placeOfTheLatest() {
        SpreadRules x = new SpreadRules();
        due("before any", x.place(), NONE);
        x.tensor(9);
        x.free(0);
        due("BAD is none", x.place(), NONE);
        row(x, INTS, 1, 1, 1);
        row(x, INTS, 1, 1, 0);
        x.shaped(INTS, 2, 1, NONE);
        x.shaped(INTS, 3, 1, NONE);
        x.act(4, 0, 1);
        due("FAILURE 5: the ITEM", x.place(), 2);
        x.act(0, 0, 1);
        due("what is done leaves it", x.place(), 2);
        x.act(23, 0, 1);
        due("BAD leaves it", x.place(), 2);
        due("asking leaves it", x.place(), 2);
        x.act(0, 2, 3);
        due("FAILURE 6: the UNLIKE AXIS", x.place(), 1);
        x.item(0, 3, 0);
        due("FAILURE 2: NONE", x.place(), NONE);
        x.act(4, 0, 1);
        x.shaped(INTS, -1, NONE, NONE);
        due("FAILURE 3: NONE", x.place(), NONE);
        x.act(4, 0, 1);
        x.bits(0, 0, LONGS);
        due("FAILURE 4: NONE", x.place(), NONE);
        x.act(4, 0, 1);
        x.shaped(INTS, 60, 5, NONE);
        due("FAILURE 6 by too many: NONE", x.place(), NONE);
        x.act(4, 0, 1);
        x.into(0, 0, 1, 2);
        due("FAILURE 6 by other EXTENTS: NONE", x.place(), NONE);
        x.act(4, 0, 1);
        x.free(3);
        due("free leaves it", x.place(), 2);
        x.of(3, 0);
        due("FAILURE 1: NONE", x.place(), NONE);
        x.act(4, 0, 1);
        due("the latest", x.place(), 2);
        for (int t = x.count(0); t < 17; t++) {
            x.tensor(INTS);
        }
        due("FULL leaves it", x.place(), 2);
        due("FAILURES", x.count(3), 14);
    }

    // Promise 18: "0 TENSORS, 1 ones that are not GONE, 2 MISSING in all, 3 FAILURES in all. BAD."
    private static void counts() {
        for (int what : new int[] {-1, 4, MIN, MAX}) {
            dueRefused("count " + what, furnished(), BAD, x -> x.count(what));
        }
        SpreadRules x = furnished();
        due("TENSORS", x.count(0), TENSORS);
        due("not GONE", x.count(1), TENSORS - 1);
        due("MISSING", x.count(2), 1);
        due("FAILURES", x.count(3), 1);
        SpreadRules y = full();
        for (int t = 0; t < 16; t++) {
            due("TENSORS", y.count(0), 16);
            due("not GONE", y.count(1), 16 - t);
            y.free(t);
        }
        due("all are GONE", y.count(1), 0);
        due("TENSORS stay", y.count(0), 16);
        y.free(15);
        due("GONE twice", y.count(1), 0);
    }

    private static void countsRunOn() {
        SpreadRules x = new SpreadRules();
        x.shaped(INTS, 60, 4, NONE);
        x.tensor(INTS);
        for (int n = 1; n <= 100; n++) {
            x.free(2);
            x.item(0, 240, 1);
            due("FAILURES in all", x.count(3), n);
        }
        x.setting(1);
        for (int n = 1; n <= 100; n++) {
            due("by 0", x.into(7, 0, 1, 0), 1);
            due("MISSING in all", x.count(2), 240 * n);
        }
    }

    // "An object is used for at most 512 calls": the last of them is answered as the first.
    private static void answersUpToTheLastCall() {
        SpreadRules x = new SpreadRules();
        x.shaped(INTS, 240 / 4, 4, NONE);
        x.tensor(INTS);
        x.item(1, 0, 1);
        for (int call = 4; call < 512; call++) {
            due("call " + call, x.into(0, 0, 1, 0), 1);
        }
        due("call 512", x.bits(0, 239, INTS), 508);
    }
}
