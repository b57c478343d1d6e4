/** Acts on rows of numbers whose EXTENTS are SPREAD to one another; see README.md. */
public final class SpreadRules {
    public static final int BAD = -1, FULL = -2, NONE = -3;

    private static final int MOST_TENSORS = 16, MOST_ITEMS = 240, MOST_EXTENT = 60;

    private static final int FAILED = -10;
    private static final int GONE = 1, NO_ITEM = 2, BELOW_ZERO = 3, OTHER_LANE = 4, BY_ZERO = 5, OTHER_EXTENTS = 6;

    private final Tensor[] tensors = new Tensor[MOST_TENSORS];
    private final Arithmetic arithmetic = new Arithmetic();
    // Results wait in these two until nothing can fail any more; every call uses them again.
    private final Shape spread = new Shape();
    private final long[] row = new long[MOST_ITEMS];
    private int made = 0;
    private int settingNow = 0;
    private int missing = 0;
    private int failures = 0;
    private int latestPlace = NONE;

    public SpreadRules() {
    }

    public int tensor(int lane) {
        if (!Lanes.isLane(lane)) {
            return BAD;
        }
        if (isFull()) {
            return FULL;
        }
        spread.setFromFirst(NONE, NONE, NONE);
        return madeOfZeros(lane);
    }

    public int shaped(int lane, int a, int b, int c) {
        if (!Lanes.isLane(lane) || a > MOST_EXTENT || b > MOST_EXTENT || c > MOST_EXTENT || (b == NONE && c != NONE)) {
            return BAD;
        }
        if (isFull()) {
            return FULL;
        }
        // NONE is below 0 too: only the first EXTENT cannot be left out.
        if (a < 0 || (b < 0 && b != NONE) || (c < 0 && c != NONE)) {
            return failed(BELOW_ZERO, NONE);
        }
        spread.setFromFirst(a, b, c);
        if (spread.size() > MOST_ITEMS) {
            return failed(OTHER_EXTENTS, NONE);
        }
        return madeOfZeros(lane);
    }

    public int free(int t) {
        Tensor x = known(t);
        if (x == null) {
            return BAD;
        }
        if (x.gone) {
            return failed(GONE, NONE);
        }
        x.gone = true;
        return 1;
    }

    public int setting(int s) {
        if (s != 0 && s != 1) {
            return BAD;
        }
        int before = settingNow;
        settingNow = s;
        return before;
    }

    public int item(int t, int i, long v) {
        Tensor x = known(t);
        if (x == null) {
            return BAD;
        }
        if (x.gone) {
            return failed(GONE, NONE);
        }
        if (!x.hasItem(i)) {
            return failed(NO_ITEM, NONE);
        }
        x.write(i, Lanes.lowestBits(v, x.lane));
        return 1;
    }

    public long bits(int t, int i, int lane) {
        Tensor x = known(t);
        if (x == null || !Lanes.isLane(lane)) {
            return BAD;
        }
        if (x.gone) {
            return failed(GONE, NONE);
        }
        if (x.lane != lane) {
            return failed(OTHER_LANE, NONE);
        }
        if (!x.hasItem(i)) {
            return failed(NO_ITEM, NONE);
        }
        return x.read(i);
    }

    public int index(int t, int i, int j, int k) {
        Tensor x = known(t);
        if (x == null) {
            return BAD;
        }
        if (x.gone) {
            return failed(GONE, NONE);
        }
        int number = x.shape.numberAt(i, j, k);
        return number == NONE ? failed(NO_ITEM, NONE) : number;
    }

    public int of(int t, int what) {
        Tensor x = known(t);
        if (x == null || what < 0 || what > 5) {
            return BAD;
        }
        if (x.gone) {
            return failed(GONE, NONE);
        }
        switch (what) {
            case 0:
                return x.lane;
            case 1:
                return x.shape.rank;
            case 2:
                return x.shape.size();
            default:
                return x.shape.extentFromFirst(what - 3);
        }
    }

    public int act(int op, int a, int b) {
        Tensor x = known(a);
        Tensor y = known(b);
        if (x == null || y == null || !Arithmetic.isAct(op)) {
            return BAD;
        }
        if (isFull()) {
            return FULL;
        }
        if (x.gone || y.gone) {
            return failed(GONE, NONE);
        }
        int lane = Lanes.ofAct(op, x.lane, y.lane);
        if (lane == NONE) {
            return failed(OTHER_LANE, NONE);
        }
        int unlike = spreadOf(x, y);
        if (unlike != NONE) {
            return failed(OTHER_EXTENTS, unlike);
        }
        if (spread.size() > MOST_ITEMS) {
            return failed(OTHER_EXTENTS, NONE);
        }
        int byZero = rowByAct(op, lane, x, y);
        if (byZero != NONE) {
            return failed(BY_ZERO, byZero);
        }
        return madeOfRow(Lanes.ofResult(op, lane));
    }

    public int into(int op, int a, int b, int target) {
        Tensor x = known(a);
        Tensor y = known(b);
        Tensor z = known(target);
        if (x == null || y == null || z == null || !Arithmetic.isAct(op)) {
            return BAD;
        }
        if (x.gone || y.gone || z.gone) {
            return failed(GONE, NONE);
        }
        int lane = Lanes.ofAct(op, x.lane, y.lane);
        if (lane == NONE) {
            return failed(OTHER_LANE, NONE);
        }
        int unlike = spreadOf(x, y);
        if (unlike != NONE) {
            return failed(OTHER_EXTENTS, unlike);
        }
        // A SPREAD of too many ITEMS ends here, too: no TENSOR has such EXTENTS.
        if (!spread.isLike(z.shape)) {
            return failed(OTHER_EXTENTS, NONE);
        }
        int resultLane = Lanes.ofResult(op, lane);
        if (!Lanes.mayHold(z.lane, resultLane)) {
            return failed(OTHER_LANE, NONE);
        }
        int byZero = rowByAct(op, lane, x, y);
        if (byZero != NONE) {
            return failed(BY_ZERO, byZero);
        }
        moveRowInto(z, resultLane);
        return 1;
    }

    public int one(int op, int a) {
        Tensor x = known(a);
        if (x == null || !Arithmetic.isOfOne(op)) {
            return BAD;
        }
        if (isFull()) {
            return FULL;
        }
        if (x.gone) {
            return failed(GONE, NONE);
        }
        int lane = Lanes.ofOne(op, x.lane);
        if (lane == NONE) {
            return failed(OTHER_LANE, NONE);
        }
        spread.setAs(x.shape);
        for (int n = 0; n < x.items.length && n < row.length; n++) {
            row[n] = arithmetic.ofOne(op, lane, arithmetic.moved(x.read(n), x.lane, lane));
        }
        return madeOfRow(op == Arithmetic.IS_NO_NUMBER ? Lanes.TRUTHS : lane);
    }

    public int cast(int a, int lane) {
        Tensor x = known(a);
        if (x == null || !Lanes.isLane(lane)) {
            return BAD;
        }
        if (isFull()) {
            return FULL;
        }
        if (x.gone) {
            return failed(GONE, NONE);
        }
        spread.setAs(x.shape);
        for (int n = 0; n < x.items.length && n < row.length; n++) {
            row[n] = arithmetic.moved(x.read(n), x.lane, lane);
        }
        return madeOfRow(lane);
    }

    public int where(int mask, int a, int b) {
        Tensor m = known(mask);
        Tensor x = known(a);
        Tensor y = known(b);
        if (m == null || x == null || y == null) {
            return BAD;
        }
        if (isFull()) {
            return FULL;
        }
        if (m.gone || x.gone || y.gone) {
            return failed(GONE, NONE);
        }
        if (m.lane != Lanes.TRUTHS) {
            return failed(OTHER_LANE, NONE);
        }
        int unlike = spreadOf(x, y);
        if (unlike == NONE) {
            unlike = spread.spreadWith(m.shape);
        }
        // What a and b alone would have does not count: a mask without ITEMS may leave none of it.
        if (unlike != NONE || spread.size() > MOST_ITEMS) {
            return failed(OTHER_EXTENTS, unlike);
        }
        int lane = Lanes.joined(x.lane, y.lane);
        rowByMask(lane, m, x, y);
        return madeOfRow(lane);
    }

    public int copy(int a, int i, int b, int j, int n) {
        Tensor x = known(a);
        Tensor y = known(b);
        if (x == null || y == null) {
            return BAD;
        }
        if (x.gone || y.gone) {
            return failed(GONE, NONE);
        }
        if (x.lane != y.lane) {
            return failed(OTHER_LANE, NONE);
        }
        // Differences of numbers that are not below 0 cannot run over, as sums could.
        if (i < 0 || j < 0 || n < 0 || n > x.items.length - i || n > y.items.length - j) {
            return failed(NO_ITEM, NONE);
        }
        System.arraycopy(x.items, i, y.items, j, n);
        return n;
    }

    public int same(int a, int b) {
        Tensor x = known(a);
        Tensor y = known(b);
        if (x == null || y == null) {
            return BAD;
        }
        if (x.gone || y.gone) {
            return failed(GONE, NONE);
        }
        return x.isLike(y) ? 1 : 0;
    }

    public int place() {
        return latestPlace;
    }

    public int count(int what) {
        switch (what) {
            case 0:
                return made;
            case 1:
                return notGone();
            case 2:
                return missing;
            case 3:
                return failures;
            default:
                return BAD;
        }
    }

    private Tensor known(int t) {
        return t >= 0 && t < made && t < tensors.length ? tensors[t] : null;
    }

    private boolean isFull() {
        return made >= MOST_TENSORS;
    }

    private int notGone() {
        int number = 0;
        for (int t = 0; t < made; t++) {
            Tensor x = known(t);
            if (x != null && !x.gone) {
                number++;
            }
        }
        return number;
    }

    private int failed(int failure, int itsPlace) {
        failures++;
        latestPlace = itsPlace;
        return FAILED - failure;
    }

    private int madeOfZeros(int lane) {
        for (int n = 0; n < row.length; n++) {
            row[n] = 0;
        }
        return madeOfRow(lane);
    }

    /** A new TENSOR of what waits in row and spread. */
    private int madeOfRow(int lane) {
        int size = spread.size();
        if (made < 0 || made >= tensors.length || size < 0 || size > row.length) {
            return FULL;
        }
        Tensor x = new Tensor(lane, spread, size);
        System.arraycopy(row, 0, x.items, 0, size);
        tensors[made] = x;
        made++;
        return made - 1;
    }

    /** Lets spread be the SPREAD of two; the UNLIKE AXIS, or NONE. */
    private int spreadOf(Tensor x, Tensor y) {
        spread.setAs(x.shape);
        return spread.spreadWith(y.shape);
    }

    /** The first ITEM of the result that would be divided by 0, or NONE: then row has them all. */
    private int rowByAct(int op, int lane, Tensor x, Tensor y) {
        int size = spread.size();
        int missed = 0;
        for (int n = 0; n < size && n < row.length; n++) {
            long left = arithmetic.moved(x.readSpread(n, spread), x.lane, lane);
            long right = arithmetic.moved(y.readSpread(n, spread), y.lane, lane);
            if (!Arithmetic.isByZero(op, lane, right)) {
                row[n] = arithmetic.ofTwo(op, lane, left, right);
            } else if (settingNow == 1) {
                row[n] = 0;
                missed++;
            } else {
                return n;
            }
        }
        missing += missed;
        return NONE;
    }

    private void rowByMask(int lane, Tensor m, Tensor x, Tensor y) {
        int size = spread.size();
        for (int n = 0; n < size && n < row.length; n++) {
            Tensor chosen = m.readSpread(n, spread) != 0 ? x : y;
            row[n] = arithmetic.moved(chosen.readSpread(n, spread), chosen.lane, lane);
        }
    }

    private void moveRowInto(Tensor z, int fromLane) {
        for (int n = 0; n < z.items.length && n < row.length; n++) {
            z.write(n, arithmetic.moved(row[n], fromLane, z.lane));
        }
    }

    /** A LANE, EXTENTS and ITEMS; the ITEMS are always VALUES as they are told. */
    private static final class Tensor {
        final int lane;
        final Shape shape = new Shape();
        final long[] items;
        boolean gone = false;

        Tensor(int lane, Shape like, int size) {
            this.lane = lane;
            this.shape.setAs(like);
            this.items = new long[size < 0 ? 0 : size];
        }

        boolean hasItem(int i) {
            return i >= 0 && i < items.length;
        }

        long read(int i) {
            return hasItem(i) ? items[i] : 0;
        }

        void write(int i, long value) {
            if (hasItem(i)) {
                items[i] = value;
            }
        }

        /** The ITEM that a SPREAD has as its own one of this number. */
        long readSpread(int number, Shape whole) {
            return read(shape.numberUnder(number, whole));
        }

        boolean isLike(Tensor other) {
            if (lane != other.lane || !shape.isLike(other.shape)) {
                return false;
            }
            for (int n = 0; n < items.length; n++) {
                if (items[n] != other.read(n)) {
                    return false;
                }
            }
            return true;
        }
    }

    /** A row of EXTENTS, held from the last one on, 1 where there is none, as a SPREAD counts them. */
    private static final class Shape {
        static final int MOST_RANK = 3;

        int rank = 0;
        final int[] fromLast = {1, 1, 1};

        void setFromFirst(int a, int b, int c) {
            if (a == NONE) {
                setFromLast(0, 1, 1, 1);
            } else if (b == NONE) {
                setFromLast(1, a, 1, 1);
            } else if (c == NONE) {
                setFromLast(2, b, a, 1);
            } else {
                setFromLast(3, c, b, a);
            }
        }

        private void setFromLast(int newRank, int last, int nextToLast, int first) {
            rank = newRank;
            fromLast[0] = last;
            fromLast[1] = nextToLast;
            fromLast[2] = first;
        }

        void setAs(Shape other) {
            setFromLast(other.rank, other.fromLast[0], other.fromLast[1], other.fromLast[2]);
        }

        /** Becomes the SPREAD of itself and another one: NONE; or answers the UNLIKE AXIS. */
        int spreadWith(Shape other) {
            for (int axis = 0; axis < MOST_RANK; axis++) {
                int extent = other.fromLast[axis];
                if (fromLast[axis] == 1) {
                    fromLast[axis] = extent;
                } else if (extent != 1 && extent != fromLast[axis]) {
                    return axis;
                }
            }
            rank = Math.max(rank, other.rank);
            return NONE;
        }

        int size() {
            return fromLast[0] * fromLast[1] * fromLast[2];
        }

        int extentFromFirst(int nth) {
            int axis = rank - 1 - nth;
            return nth >= 0 && axis >= 0 && axis < MOST_RANK ? fromLast[axis] : NONE;
        }

        boolean isLike(Shape other) {
            return rank == other.rank
                    && fromLast[0] == other.fromLast[0]
                    && fromLast[1] == other.fromLast[1]
                    && fromLast[2] == other.fromLast[2];
        }

        /** The number of the ITEM at indices from the first EXTENT on; NONE if one of them is no index. */
        int numberAt(int i, int j, int k) {
            int number = 0;
            for (int nth = 0; nth < rank; nth++) {
                int at = nth == 0 ? i : nth == 1 ? j : k;
                int extent = extentFromFirst(nth);
                if (at < 0 || at >= extent) {
                    return NONE;
                }
                number = number * extent + at;
            }
            return number;
        }

        /** The number here of what a SPREAD that this is a part of has under a number of its own. */
        int numberUnder(int number, Shape whole) {
            int here = 0;
            int step = 1;
            int rest = number;
            for (int axis = 0; axis < MOST_RANK; axis++) {
                int extent = whole.fromLast[axis];
                if (extent < 1) {
                    return NONE;
                }
                if (fromLast[axis] != 1) {
                    here += rest % extent * step;
                    step *= fromLast[axis];
                }
                rest /= extent;
            }
            return here;
        }
    }

    /** What LANES there are, which one a result has, and what VALUES look like in each. */
    private static final class Lanes {
        static final int TRUTHS = 0, BYTES = 1, INTS = 2, LONGS = 3, FLOATS = 4, DOUBLES = 5;
        static final long FLOAT_NO_NUMBER = 0x7fc00000L, DOUBLE_NO_NUMBER = 0x7ff8000000000000L;
        private static final long FLOAT_INFINITE = 0x7f800000L, DOUBLE_INFINITE = 0x7ff0000000000000L;

        static boolean isLane(int lane) {
            return lane >= TRUTHS && lane <= DOUBLES;
        }

        static boolean isReal(int lane) {
            return lane == FLOATS || lane == DOUBLES;
        }

        static int joined(int a, int b) {
            int greater = Math.max(a, b);
            int lesser = Math.min(a, b);
            return greater == FLOATS && (lesser == INTS || lesser == LONGS) ? DOUBLES : greater;
        }

        /** Whether a result of a LANE may go into a TENSOR that has another one. */
        static boolean mayHold(int lane, int result) {
            return joined(lane, result) == lane;
        }

        /** The LANE that an ACT's VALUES go TO first; NONE if it has none of that. */
        static int ofAct(int op, int a, int b) {
            int lane = joined(a, b);
            if (isReal(lane)) {
                return op >= Arithmetic.AND && op <= Arithmetic.RIGHT_WITH_ZEROS ? NONE : lane;
            }
            if (op == Arithmetic.QUOTIENT) {
                return DOUBLES;
            }
            boolean staysTruth = op >= Arithmetic.LESSER && op <= Arithmetic.EXCLUSIVE_OR || Arithmetic.isComparison(op);
            return lane == TRUTHS && !staysTruth ? INTS : lane;
        }

        static int ofResult(int op, int lane) {
            return Arithmetic.isComparison(op) ? TRUTHS : lane;
        }

        static int ofOne(int op, int lane) {
            if (op == Arithmetic.NOT && isReal(lane)) {
                return NONE;
            }
            return lane == TRUTHS && op <= Arithmetic.SIGN ? INTS : lane;
        }

        static long noNumber(int lane) {
            return lane == FLOATS ? FLOAT_NO_NUMBER : DOUBLE_NO_NUMBER;
        }

        static boolean isNoNumber(long value, int lane) {
            return isReal(lane) && value == noNumber(lane);
        }

        /** Whether a VALUE is 0; both zeros of FLOATS and DOUBLES are. */
        static boolean isZero(long value, int lane) {
            return value == 0
                    || lane == FLOATS && value == Integer.MIN_VALUE
                    || lane == DOUBLES && value == Long.MIN_VALUE;
        }

        /** The VALUE that a long's lowest bits are. */
        static long lowestBits(long v, int lane) {
            switch (lane) {
                case TRUTHS:
                    return v & 1;
                case BYTES:
                    return (byte) v;
                case INTS:
                    return (int) v;
                case FLOATS:
                    return (v & 0x7fffffffL) > FLOAT_INFINITE ? FLOAT_NO_NUMBER : (int) v;
                case DOUBLES:
                    return (v & Long.MAX_VALUE) > DOUBLE_INFINITE ? DOUBLE_NO_NUMBER : v;
                default:
                    return v;
            }
        }
    }

    /** ACTS, OF ONE, and how a VALUE goes TO a LANE; all on VALUES as they are told. */
    private static final class Arithmetic {
        static final int SUM = 0, DIFFERENCE = 1, PRODUCT = 2, QUOTIENT = 3;
        static final int QUOTIENT_CUT = 4, QUOTIENT_DOWN = 5, REST_OF_CUT = 6, REST_OF_DOWN = 7;
        static final int LESSER = 8, GREATER = 9, LESSER_NUMBER = 10, GREATER_NUMBER = 11;
        static final int AND = 12, OR = 13, EXCLUSIVE_OR = 14;
        static final int LEFT = 15, RIGHT_WITH_SIGN = 16, RIGHT_WITH_ZEROS = 17;
        static final int LESS = 18, LESS_OR_LIKE = 19, LIKE = 20, NOT_LIKE = 21, WITH_SIGN_OF = 22;

        static final int NEGATIVE = 0, SIZE = 1, SIGN = 2, DOWN = 3, UP = 4, NEAREST = 5, CUT = 6;
        static final int NOT = 7, IS_NO_NUMBER = 8;

        private static final long FLOAT_ONE = 0x3f800000L, DOUBLE_ONE = 0x3ff0000000000000L;

        private final Real left = new Real();
        private final Real right = new Real();
        private final Real result = new Real();

        static boolean isAct(int op) {
            return op >= SUM && op <= WITH_SIGN_OF;
        }

        static boolean isOfOne(int op) {
            return op >= NEGATIVE && op <= IS_NO_NUMBER;
        }

        static boolean isComparison(int op) {
            return op >= LESS && op <= NOT_LIKE;
        }

        static boolean isByZero(int op, int lane, long y) {
            return y == 0 && op >= QUOTIENT_CUT && op <= REST_OF_DOWN && !Lanes.isReal(lane);
        }

        /** A VALUE gone TO a LANE. */
        long moved(long value, int from, int to) {
            if (from == to) {
                return value;
            }
            if (to == Lanes.TRUTHS) {
                return Lanes.isZero(value, from) ? 0 : 1;
            }
            if (!Lanes.isReal(from) && !Lanes.isReal(to)) {
                return Lanes.lowestBits(value, to);
            }
            if (Lanes.isReal(from)) {
                left.setValue(value, from);
            } else {
                left.setWhole(value);
            }
            return Lanes.isReal(to) ? left.toValue(to) : wholeOf(left, to);
        }

        private static long wholeOf(Real x, int lane) {
            long whole = x.toLong();
            if (lane == Lanes.LONGS) {
                return whole;
            }
            long nearestInt = Math.max(Integer.MIN_VALUE, Math.min(Integer.MAX_VALUE, whole));
            return Lanes.lowestBits(nearestInt, lane);
        }

        /** An ACT of VALUES that have gone TO its LANE. */
        long ofTwo(int op, int lane, long x, long y) {
            if (isComparison(op)) {
                return compares(op, lane, x, y) ? 1 : 0;
            }
            if (op >= LESSER && op <= GREATER_NUMBER) {
                return chosen(op, lane, x, y);
            }
            if (op == WITH_SIGN_OF) {
                long size = sizeOf(x, lane);
                // Told as a long, what is no number is above 0, as without a sign.
                return y < 0 ? negativeOf(size, lane) : size;
            }
            return Lanes.isReal(lane) ? ofReals(op, lane, x, y) : Lanes.lowestBits(ofWholes(op, lane, x, y), lane);
        }

        private static boolean compares(int op, int lane, long x, long y) {
            if (Lanes.isNoNumber(x, lane) || Lanes.isNoNumber(y, lane)) {
                return op == NOT_LIKE;
            }
            long a = Lanes.isZero(x, lane) ? 0 : rankOf(x, lane);
            long b = Lanes.isZero(y, lane) ? 0 : rankOf(y, lane);
            switch (op) {
                case LESS:
                    return a < b;
                case LESS_OR_LIKE:
                    return a <= b;
                case LIKE:
                    return a == b;
                default:
                    return a != b;
            }
        }

        private static long chosen(int op, int lane, long x, long y) {
            boolean noNumber = Lanes.isNoNumber(x, lane);
            if (noNumber || Lanes.isNoNumber(y, lane)) {
                boolean otherOne = op == LESSER_NUMBER || op == GREATER_NUMBER;
                return !otherOne ? Lanes.noNumber(lane) : noNumber ? y : x;
            }
            boolean wantsLesser = op == LESSER || op == LESSER_NUMBER;
            boolean isLesser = rankOf(x, lane) < rankOf(y, lane);
            return wantsLesser == isLesser ? x : y;
        }

        /** A long that is in order with the others of a LANE; -0.0 comes just before 0.0. */
        private static long rankOf(long value, int lane) {
            // The bits of FLOATS and DOUBLES below 0 run the other way round.
            return value < 0 && Lanes.isReal(lane) ? value ^ Long.MAX_VALUE : value;
        }

        private static long negativeOf(long value, int lane) {
            if (Lanes.isNoNumber(value, lane)) {
                return value;
            }
            switch (lane) {
                case Lanes.FLOATS:
                    return (int) value ^ Integer.MIN_VALUE;
                case Lanes.DOUBLES:
                    return value ^ Long.MIN_VALUE;
                default:
                    return Lanes.lowestBits(-value, lane);
            }
        }

        private static long sizeOf(long value, int lane) {
            return value < 0 ? negativeOf(value, lane) : value;
        }

        private static long signOf(long value, int lane) {
            if (Lanes.isNoNumber(value, lane) || Lanes.isZero(value, lane)) {
                return value;
            }
            long above = lane == Lanes.FLOATS ? FLOAT_ONE : lane == Lanes.DOUBLES ? DOUBLE_ONE : 1;
            return value < 0 ? negativeOf(above, lane) : above;
        }

        private static long ofWholes(int op, int lane, long x, long y) {
            int by = (int) y & (lane == Lanes.BYTES ? 7 : lane == Lanes.INTS ? 31 : 63);
            switch (op) {
                case SUM:
                    return x + y;
                case DIFFERENCE:
                    return x - y;
                case PRODUCT:
                    return x * y;
                case QUOTIENT_CUT:
                    return y == 0 ? 0 : x / y;
                case QUOTIENT_DOWN:
                    return y == 0 ? 0 : Math.floorDiv(x, y);
                case REST_OF_CUT:
                    return y == 0 ? 0 : x % y;
                case REST_OF_DOWN:
                    return y == 0 ? 0 : Math.floorMod(x, y);
                case AND:
                    return x & y;
                case OR:
                    return x | y;
                case EXCLUSIVE_OR:
                    return x ^ y;
                case LEFT:
                    return x << by;
                case RIGHT_WITH_SIGN:
                    return x >> by;
                default:
                    return withoutSign(x, lane) >>> by;
            }
        }

        private static long withoutSign(long x, int lane) {
            return lane == Lanes.BYTES ? x & 0xffL : lane == Lanes.INTS ? x & 0xffffffffL : x;
        }

        private long ofReals(int op, int lane, long x, long y) {
            left.setValue(x, lane);
            right.setValue(y, lane);
            switch (op) {
                case SUM:
                    result.setSum(left, right);
                    break;
                case DIFFERENCE:
                    right.negative = !right.negative;
                    result.setSum(left, right);
                    break;
                case PRODUCT:
                    result.setProduct(left, right);
                    break;
                case QUOTIENT:
                    result.setQuotient(left, right);
                    break;
                case QUOTIENT_CUT:
                case QUOTIENT_DOWN:
                    // The quotient itself is rounded to its LANE before it is cut.
                    result.setQuotient(left, right);
                    result.setValue(result.toValue(lane), lane);
                    result.roundToWhole(op == QUOTIENT_CUT ? CUT : DOWN);
                    break;
                case REST_OF_CUT:
                    result.setRest(left, right);
                    break;
                default:
                    result.setRest(left, right);
                    if (result.kind == Real.FINITE && result.negative != right.negative) {
                        left.setAs(result);
                        result.setSum(left, right);
                    }
                    break;
            }
            return result.toValue(lane);
        }

        /** OF ONE: of a VALUE that has gone TO its LANE. */
        long ofOne(int op, int lane, long x) {
            switch (op) {
                case NEGATIVE:
                    return negativeOf(x, lane);
                case SIZE:
                    return sizeOf(x, lane);
                case SIGN:
                    return signOf(x, lane);
                case NOT:
                    return Lanes.lowestBits(~x, lane);
                case IS_NO_NUMBER:
                    return Lanes.isNoNumber(x, lane) ? 1 : 0;
                default:
                    return roundedTo(op, lane, x);
            }
        }

        private long roundedTo(int way, int lane, long x) {
            if (!Lanes.isReal(lane)) {
                return x;
            }
            result.setValue(x, lane);
            result.roundToWhole(way);
            return result.toValue(lane);
        }
    }

    /**
     * A number taken apart, so that it is rounded only once, when it becomes a VALUE again: the language
     * that this keeps to has no way from bits to a double, and no double that is no number.
     */
    private static final class Real {
        static final int ZERO = 0, FINITE = 1, INFINITE = 2, NO_NUMBER = 3;

        private static final int TOP = 62;
        // A DOUBLE has 53 bits: below them, the last ten of a significand are 0 when it comes from a VALUE.
        private static final int SPARE = 10;
        private static final int FLOAT_FRACTION = 23, DOUBLE_FRACTION = 52;
        private static final int FLOAT_EXPONENTS = 255, DOUBLE_EXPONENTS = 2047;

        int kind = ZERO;
        boolean negative = false;
        // Where FINITE: the size is significand times 2 to the exponent, and bit TOP is the first that is 1.
        private long significand = 0;
        private int exponent = 0;

        void setAs(Real other) {
            kind = other.kind;
            negative = other.negative;
            significand = other.significand;
            exponent = other.exponent;
        }

        private void setKind(int newKind, boolean isNegative) {
            kind = newKind;
            negative = isNegative;
        }

        /** The size is above 0, and below 2 to the 63. */
        private void setFinite(boolean isNegative, long size, int itsExponent) {
            kind = FINITE;
            negative = isNegative;
            significand = size;
            exponent = itsExponent;
            for (int by = 32; by >= 1; by /= 2) {
                if (significand >>> (TOP + 1 - by) == 0) {
                    significand <<= by;
                    exponent -= by;
                }
            }
        }

        void setWhole(long whole) {
            if (whole == 0) {
                setKind(ZERO, false);
            } else if (whole == Long.MIN_VALUE) {
                setFinite(true, 1L << TOP, 1);
            } else {
                setFinite(whole < 0, Math.abs(whole), 0);
            }
        }

        void setValue(long value, int lane) {
            boolean isFloat = lane == Lanes.FLOATS;
            int fractionBits = isFloat ? FLOAT_FRACTION : DOUBLE_FRACTION;
            int exponents = isFloat ? FLOAT_EXPONENTS : DOUBLE_EXPONENTS;
            int told = (int) (value >>> fractionBits) & exponents;
            long fraction = value & ((1L << fractionBits) - 1);
            int unit = 1 - exponents / 2 - fractionBits;
            if (told == exponents) {
                setKind(fraction == 0 ? INFINITE : NO_NUMBER, value < 0);
            } else if (told != 0) {
                setFinite(value < 0, fraction | 1L << fractionBits, unit + told - 1);
            } else if (fraction != 0) {
                setFinite(value < 0, fraction, unit);
            } else {
                setKind(ZERO, value < 0);
            }
        }

        /** The nearest VALUE of FLOATS or DOUBLES. */
        long toValue(int lane) {
            if (kind == NO_NUMBER) {
                return Lanes.noNumber(lane);
            }
            boolean isFloat = lane == Lanes.FLOATS;
            long size = isFloat
                    ? sizeInBits(FLOAT_FRACTION, FLOAT_EXPONENTS)
                    : sizeInBits(DOUBLE_FRACTION, DOUBLE_EXPONENTS);
            if (!negative) {
                return size;
            }
            return size | (isFloat ? Integer.MIN_VALUE : Long.MIN_VALUE);
        }

        private long sizeInBits(int fractionBits, int exponents) {
            long infinite = (long) exponents << fractionBits;
            if (kind != FINITE) {
                return kind == ZERO ? 0 : infinite;
            }
            int told = exponent + TOP + exponents / 2;
            if (told >= exponents) {
                return infinite;
            }
            int dropped = TOP - fractionBits;
            if (told < 1) {
                return shiftedToNearest(significand, dropped + 1 - told);
            }
            // The first bit of the significand, and what rounding carries, add to the exponent:
            // beyond the greatest number that gives just the bits of what is infinite.
            return ((long) (told - 1) << fractionBits) + shiftedToNearest(significand, dropped);
        }

        /** Cut towards 0, the nearest that a long has. */
        long toLong() {
            if (kind == ZERO || kind == NO_NUMBER) {
                return 0;
            }
            if (kind == INFINITE || exponent > 0) {
                return negative ? Long.MIN_VALUE : Long.MAX_VALUE;
            }
            long size = exponent < -TOP ? 0 : significand >>> -exponent;
            return negative ? -size : size;
        }

        /** Shifted right to the nearest one, of two as near the even one; by at least 1. */
        private static long shiftedToNearest(long size, int by) {
            if (by < 1 || by > TOP + 1) {
                return by < 1 ? size : 0;
            }
            long kept = size >>> by;
            long rest = size & ((1L << by) - 1);
            long half = 1L << (by - 1);
            return rest > half || rest == half && (kept & 1) == 1 ? kept + 1 : kept;
        }

        /** Shifted right; the last bit tells whether anything else was lost, so that later rounding knows. */
        private static long shiftedWithTrace(long size, int by) {
            if (by < 1 || by > TOP) {
                return by < 1 ? size : 1;
            }
            long lost = size & ((1L << by) - 1);
            return size >>> by | (lost == 0 ? 0 : 1);
        }

        void setSum(Real x, Real y) {
            boolean unlike = x.negative != y.negative;
            if (x.kind == NO_NUMBER || y.kind == NO_NUMBER || x.kind == INFINITE && y.kind == INFINITE && unlike) {
                setKind(NO_NUMBER, false);
            } else if (x.kind == ZERO && y.kind == ZERO) {
                setKind(ZERO, x.negative && y.negative);
            } else if (x.kind == INFINITE || y.kind == ZERO) {
                setAs(x);
            } else if (y.kind == INFINITE || x.kind == ZERO) {
                setAs(y);
            } else if (x.exponent >= y.exponent) {
                setFiniteSum(x, y);
            } else {
                setFiniteSum(y, x);
            }
        }

        private void setFiniteSum(Real x, Real y) {
            // One bit lower, so that the sum has room; the spare bits make that exact.
            long a = x.significand >>> 1;
            long b = shiftedWithTrace(y.significand >>> 1, x.exponent - y.exponent);
            long sum = x.negative == y.negative ? a + b : a - b;
            if (sum == 0) {
                setKind(ZERO, false);
            } else {
                setFinite(x.negative != sum < 0, Math.abs(sum), x.exponent + 1);
            }
        }

        void setProduct(Real x, Real y) {
            boolean isNegative = x.negative != y.negative;
            boolean hasZero = x.kind == ZERO || y.kind == ZERO;
            boolean hasInfinite = x.kind == INFINITE || y.kind == INFINITE;
            if (x.kind == NO_NUMBER || y.kind == NO_NUMBER || hasZero && hasInfinite) {
                setKind(NO_NUMBER, false);
            } else if (hasZero || hasInfinite) {
                setKind(hasZero ? ZERO : INFINITE, isNegative);
            } else {
                setFiniteProduct(isNegative, x, y);
            }
        }

        private void setFiniteProduct(boolean isNegative, Real x, Real y) {
            int half = 27;
            long lowMask = (1L << half) - 1;
            long a = x.significand >>> SPARE;
            long b = y.significand >>> SPARE;
            long middle = (a >>> half) * (b & lowMask) + (a & lowMask) * (b >>> half);
            long low = (a & lowMask) * (b & lowMask) + ((middle & lowMask) << half);
            long high = (a >>> half) * (b >>> half) + (middle >>> half) + (low >>> 2 * half);
            long rest = low & ((1L << 2 * half) - 1);
            int lost = 2 * half - SPARE;
            long size = high << SPARE | shiftedWithTrace(rest, lost);
            setFinite(isNegative, size, x.exponent + y.exponent + 2 * SPARE + lost);
        }

        void setQuotient(Real x, Real y) {
            boolean isNegative = x.negative != y.negative;
            boolean noNumber = x.kind == NO_NUMBER || y.kind == NO_NUMBER;
            if (noNumber || x.kind == y.kind && x.kind != FINITE) {
                setKind(NO_NUMBER, false);
            } else if (x.kind == ZERO || y.kind == INFINITE) {
                setKind(ZERO, isNegative);
            } else if (x.kind == INFINITE || y.kind == ZERO) {
                setKind(INFINITE, isNegative);
            } else {
                setFiniteQuotient(isNegative, x, y);
            }
        }

        private void setFiniteQuotient(boolean isNegative, Real x, Real y) {
            long divisor = y.significand >>> SPARE;
            if (divisor == 0) {
                setKind(INFINITE, isNegative);
                return;
            }
            long rest = x.significand >>> SPARE;
            long size = rest / divisor;
            rest %= divisor;
            int digits = 6;
            for (int n = 0; n < digits; n++) {
                rest <<= SPARE;
                size = size << SPARE | rest / divisor;
                rest %= divisor;
            }
            setFinite(isNegative, size | (rest == 0 ? 0 : 1), x.exponent - y.exponent - digits * SPARE);
        }

        /** What is left of x, exactly, with its sign, when y has been taken from it as often as it goes. */
        void setRest(Real x, Real y) {
            boolean noNumber = x.kind == NO_NUMBER || y.kind == NO_NUMBER;
            if (noNumber || x.kind == INFINITE || y.kind == ZERO) {
                setKind(NO_NUMBER, false);
            } else if (x.kind == ZERO || y.kind == INFINITE || x.exponent < y.exponent) {
                setAs(x);
            } else {
                setFiniteRest(x, y);
            }
        }

        private void setFiniteRest(Real x, Real y) {
            long divisor = y.significand >>> SPARE;
            if (divisor == 0) {
                setKind(NO_NUMBER, false);
                return;
            }
            long rest = (x.significand >>> SPARE) % divisor;
            for (int doublings = x.exponent - y.exponent; doublings > 0 && rest != 0; doublings -= SPARE) {
                rest = (rest << Math.min(doublings, SPARE)) % divisor;
            }
            if (rest == 0) {
                setKind(ZERO, x.negative);
            } else {
                setFinite(x.negative, rest, y.exponent + SPARE);
            }
        }

        /** By OF ONE 3 to 6; the sign stays where nothing else is left. */
        void roundToWhole(int way) {
            if (kind != FINITE || exponent >= 0) {
                return;
            }
            int by = -exponent;
            long whole = by > TOP ? 0 : significand >>> by;
            boolean isWhole = by <= TOP && whole << by == significand;
            if (way == Arithmetic.NEAREST) {
                whole = shiftedToNearest(significand, by);
            } else if (!isWhole && way == (negative ? Arithmetic.DOWN : Arithmetic.UP)) {
                whole++;
            }
            if (whole == 0) {
                setKind(ZERO, negative);
            } else {
                setFinite(negative, whole, 0);
            }
        }
    }
}
