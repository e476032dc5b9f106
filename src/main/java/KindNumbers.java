/**
 * What a language does with its plain values, told by their bits: casts, arithmetic, shifts,
 * comparisons and an order over eight kinds, with a failure where there is no answer.
 */
public final class KindNumbers {
    private static final int BOOLEAN = 0;
    private static final int BYTE = 1;
    private static final int SHORT = 2;
    private static final int CHAR = 3;
    private static final int INT = 4;
    private static final int LONG = 5;
    private static final int FLOAT = 6;
    private static final int DOUBLE = 7;

    private static final int PLUS = 1;
    private static final int MINUS = 2;
    private static final int TIMES = 3;
    private static final int DIVIDE = 4;
    private static final int REST = 5;
    private static final int LEFT = 6;
    private static final int RIGHT_WITH_SIGN = 7;
    private static final int RIGHT_WITH_ZERO = 8;

    private static final int NOTHING_FAILED = 0;
    private static final int WRONG_CALL = 1;
    private static final int NO_ANSWER = 8;

    private static final int NO_PLACE = 2;

    private int why;

    public KindNumbers() {
        why = NOTHING_FAILED;
    }

    public boolean has(int kind, long bits) {
        return isValue(kind, bits);
    }

    public boolean widens(int from, int to) {
        if (from == to) {
            return from >= BOOLEAN && from <= DOUBLE;
        }
        if (!isNumberKind(from) || !isNumberKind(to) || to == CHAR) {
            return false;
        }
        return from < to;
    }

    public long cast(int from, int to, long bits) {
        boolean castable = from == to || (isNumberKind(from) && isNumberKind(to));
        if (!castable || !isValue(from, bits)) {
            return fails(WRONG_CALL, 0);
        }
        why = NOTHING_FAILED;
        return converted(from, to, bits);
    }

    public long work(int what, int kind, long a, int other, long b) {
        if (what < PLUS || what > REST || !areNumbers(kind, a, other, b)) {
            return fails(WRONG_CALL, 0);
        }
        why = NOTHING_FAILED;
        int in = workKind(kind, other);
        long first = converted(kind, in, a);
        long second = converted(other, in, b);
        return in >= FLOAT ? workReal(what, in, first, second) : workWhole(what, in, first, second);
    }

    public long shift(int what, int kind, long a, long n) {
        boolean known = what >= LEFT && what <= RIGHT_WITH_ZERO;
        if (!known || kind < BYTE || kind > LONG || !isValue(kind, a)) {
            return fails(WRONG_CALL, 0);
        }
        why = NOTHING_FAILED;
        return kind == LONG ? shiftedLong(what, a, (int) (n & 63)) : shiftedInt(what, (int) a, (int) (n & 31));
    }

    public int compare(int kind, long a, int other, long b) {
        if (!areNumbers(kind, a, other, b)) {
            return fails(WRONG_CALL, NO_PLACE);
        }
        why = NOTHING_FAILED;
        int in = workKind(kind, other);
        long first = converted(kind, in, a);
        long second = converted(other, in, b);
        if (in >= FLOAT) {
            return sideOf(Real.place(in, first), Real.place(in, second));
        }
        return sideOf(first, second);
    }

    public int order(int kind, long a, long b) {
        if (!isValue(kind, a) || !isValue(kind, b)) {
            return fails(WRONG_CALL, NO_PLACE);
        }
        why = NOTHING_FAILED;
        if (kind >= FLOAT) {
            return sideOf(Real.placeWithZerosApart(kind, a), Real.placeWithZerosApart(kind, b));
        }
        return sideOf(a, b);
    }

    public int failed() {
        return why;
    }

    private int fails(int reason, int answer) {
        why = reason;
        return answer;
    }

    private static boolean isNumberKind(int kind) {
        return kind >= BYTE && kind <= DOUBLE;
    }

    private static boolean isValue(int kind, long bits) {
        switch (kind) {
            case BOOLEAN:
                return bits == 0 || bits == 1;
            case BYTE:
            case SHORT:
            case CHAR:
            case INT:
            case LONG:
                return narrowed(kind, bits) == bits;
            case FLOAT:
            case DOUBLE:
                return Real.isNumber(kind, bits);
            default:
                return false;
        }
    }

    private static boolean areNumbers(int kind, long a, int other, long b) {
        return isNumberKind(kind) && isNumberKind(other) && isValue(kind, a) && isValue(other, b);
    }

    private static int workKind(int kind, int other) {
        return Math.max(INT, Math.max(kind, other));
    }

    private static int sideOf(long a, long b) {
        if (a == b) {
            return 0;
        }
        return a < b ? -1 : 1;
    }

    private static long narrowed(int kind, long whole) {
        switch (kind) {
            case BYTE:
                return (byte) whole;
            case SHORT:
                return (short) whole;
            case CHAR:
                return (char) whole;
            case INT:
                return (int) whole;
            default:
                return whole;
        }
    }

    private static long converted(int from, int to, long bits) {
        if (from == to) {
            return bits;
        }
        if (to >= FLOAT) {
            return from >= FLOAT ? Real.ofReal(to, from, bits) : Real.ofWhole(to, bits);
        }
        if (from < FLOAT) {
            return narrowed(to, bits);
        }
        long whole = Real.wholePart(from, bits);
        // The lesser kinds go by way of int, so a number beyond int is cut to int's ends first.
        return to == LONG ? whole : narrowed(to, cutToInt(whole));
    }

    private static long cutToInt(long whole) {
        return Math.max(Integer.MIN_VALUE, Math.min(Integer.MAX_VALUE, whole));
    }

    private long workWhole(int what, int kind, long a, long b) {
        switch (what) {
            case PLUS:
                return narrowed(kind, a + b);
            case MINUS:
                return narrowed(kind, a - b);
            case TIMES:
                return narrowed(kind, a * b);
            case DIVIDE:
                return b == 0 ? fails(NO_ANSWER, 0) : narrowed(kind, a / b);
            default:
                return b == 0 ? fails(NO_ANSWER, 0) : narrowed(kind, a % b);
        }
    }

    private long workReal(int what, int kind, long a, long b) {
        long result;
        switch (what) {
            case PLUS:
                result = Real.sum(kind, a, b);
                break;
            case MINUS:
                result = Real.sum(kind, a, Real.negated(kind, b));
                break;
            case TIMES:
                result = Real.product(kind, a, b);
                break;
            case DIVIDE:
                result = Real.quotient(kind, a, b);
                break;
            default:
                result = Real.rest(kind, a, b);
                break;
        }
        return Real.isNumber(kind, result) ? result : fails(NO_ANSWER, 0);
    }

    private static long shiftedInt(int what, int a, int places) {
        switch (what) {
            case LEFT:
                return a << places;
            case RIGHT_WITH_SIGN:
                return a >> places;
            default:
                return a >>> places;
        }
    }

    private static long shiftedLong(int what, long a, int places) {
        switch (what) {
            case LEFT:
                return a << places;
            case RIGHT_WITH_SIGN:
                return a >> places;
            default:
                return a >>> places;
        }
    }

    /**
     * Floats and doubles by their bits, in whole numbers alone: the language's own would need a way
     * from bits to a double and back, and a % that LANGUAGE.md does not list.
     *
     * A number that is not infinite is its magnitude times 2 to its exponent. The size of a number
     * is its bits without the sign: sizes stand in the order of the numbers.
     */
    private static final class Real {
        /** Factors are moved up to this bit: the highest of a double's 53. */
        private static final int FACTOR_TOP = 52;
        /** Terms are moved up to this bit: their sum has room, and the lesser keeps bits to round by. */
        private static final int TERM_TOP = 61;
        private static final int ROUNDING_TOP = 62;
        /** So many bits more still fit into a long above a factor. */
        private static final int STEP = 10;
        private static final int QUOTIENT_STEPS = 6;
        private static final int HALF_FACTOR = 27;

        static int fractionBits(int kind) {
            return kind == FLOAT ? 23 : 52;
        }

        static int leastExponent(int kind) {
            return kind == FLOAT ? -149 : -1074;
        }

        /** How far the exponent of the greatest number stands above the least one. */
        static int greatestAbove(int kind) {
            return kind == FLOAT ? 253 : 2045;
        }

        static long infinity(int kind) {
            return kind == FLOAT ? 0x7f800000L : 0x7ff0000000000000L;
        }

        static long notANumber(int kind) {
            return infinity(kind) + 1;
        }

        static long signBit(int kind) {
            return kind == FLOAT ? 0x80000000L : Long.MIN_VALUE;
        }

        static long size(int kind, long bits) {
            return bits & ~signBit(kind);
        }

        static boolean isNumber(int kind, long bits) {
            long size = size(kind, bits);
            return size >= 0 && size <= infinity(kind);
        }

        static boolean isNegative(int kind, long bits) {
            return (bits & signBit(kind)) != 0;
        }

        static boolean isInfinite(int kind, long bits) {
            return size(kind, bits) == infinity(kind);
        }

        static boolean isZero(int kind, long bits) {
            return size(kind, bits) == 0;
        }

        static long negated(int kind, long bits) {
            return bits ^ signBit(kind);
        }

        static long signed(int kind, boolean negative, long size) {
            return negative ? size | signBit(kind) : size;
        }

        static long place(int kind, long bits) {
            long size = size(kind, bits);
            return isNegative(kind, bits) ? -size : size;
        }

        static long placeWithZerosApart(int kind, long bits) {
            long size = size(kind, bits);
            return isNegative(kind, bits) ? -size - 1 : size;
        }

        static long magnitude(int kind, long bits) {
            long first = 1L << fractionBits(kind);
            long fraction = bits & (first - 1);
            return size(kind, bits) < first ? fraction : fraction + first;
        }

        static int exponent(int kind, long bits) {
            int field = (int) (size(kind, bits) >>> fractionBits(kind));
            // Fields 0 and 1 have the same exponent: 0 only lacks the magnitude's first bit.
            return leastExponent(kind) + Math.max(field, 1) - 1;
        }

        static int roomBelow(int top, long magnitude) {
            int room = 0;
            while (room < top && (magnitude << room) < (1L << top)) {
                room++;
            }
            return room;
        }

        /** Moves down and keeps in the lowest bit whether anything fell off: rounding needs no more. */
        static long movedDown(long magnitude, int places) {
            if (places > 63) {
                return magnitude == 0 ? 0 : 1;
            }
            long kept = magnitude >>> places;
            return (kept << places) == magnitude ? kept : kept | 1;
        }

        static long ofWhole(int kind, long whole) {
            if (whole == Long.MIN_VALUE) {
                // Its magnitude has no long of its own.
                return nearest(kind, true, 1L << ROUNDING_TOP, 1);
            }
            return nearest(kind, whole < 0, Math.abs(whole), 0);
        }

        static long ofReal(int kind, int from, long bits) {
            boolean negative = isNegative(from, bits);
            if (isInfinite(from, bits)) {
                return signed(kind, negative, infinity(kind));
            }
            return nearest(kind, negative, magnitude(from, bits), exponent(from, bits));
        }

        /** The part before the point, or the long's end where it is beyond, as infinity's exponent is too. */
        static long wholePart(int kind, long bits) {
            boolean negative = isNegative(kind, bits);
            long magnitude = magnitude(kind, bits);
            int exponent = exponent(kind, bits);
            if (exponent <= 0) {
                long whole = exponent < -63 ? 0 : magnitude >>> -exponent;
                return negative ? -whole : whole;
            }
            if (exponent > 63 || magnitude > (Long.MAX_VALUE >>> exponent)) {
                return negative ? Long.MIN_VALUE : Long.MAX_VALUE;
            }
            return negative ? -(magnitude << exponent) : magnitude << exponent;
        }

        /** The bits of the nearest number of the kind, ties to even; the magnitude is not negative. */
        static long nearest(int kind, boolean negative, long magnitude, int exponent) {
            if (magnitude == 0) {
                return signed(kind, negative, 0);
            }
            int room = roomBelow(ROUNDING_TOP, magnitude);
            int drop = ROUNDING_TOP - fractionBits(kind);
            int above = exponent - room + drop - leastExponent(kind);
            if (above > greatestAbove(kind)) {
                return signed(kind, negative, infinity(kind));
            }
            if (above < 0) {
                drop -= above;
                above = 0;
            }
            long kept = roundedDown(magnitude << room, drop);
            // The magnitude's first bit counts the exponent's field up, and so does a carry of the
            // rounding: from the greatest number it leads to infinity, and never beyond.
            return signed(kind, negative, ((long) above << fractionBits(kind)) + kept);
        }

        /** Drops at least one bit of a magnitude below 2 to the 63rd, to the nearest, ties to even. */
        static long roundedDown(long magnitude, int drop) {
            if (drop > 63) {
                return 0;
            }
            long kept = magnitude >>> drop;
            long rest = magnitude & ((1L << drop) - 1);
            long half = 1L << (drop - 1);
            boolean up = rest > half || (rest == half && (kept & 1) == 1);
            return up ? kept + 1 : kept;
        }

        static long sum(int kind, long a, long b) {
            if (isInfinite(kind, a)) {
                return isInfinite(kind, b) && a != b ? notANumber(kind) : a;
            }
            if (isInfinite(kind, b)) {
                return b;
            }
            if (isZero(kind, a) && isZero(kind, b)) {
                // Minus zero comes of two minus zeros alone.
                return a & b;
            }
            boolean ordered = size(kind, a) >= size(kind, b);
            return ordered ? sumByGreater(kind, a, b) : sumByGreater(kind, b, a);
        }

        static long sumByGreater(int kind, long greater, long lesser) {
            int room = roomBelow(TERM_TOP, magnitude(kind, greater));
            long first = magnitude(kind, greater) << room;
            int exponent = exponent(kind, greater) - room;
            long second = magnitude(kind, lesser);
            int up = exponent(kind, lesser) - exponent;
            second = up >= 0 ? second << up : movedDown(second, -up);
            boolean negative = isNegative(kind, greater);
            if (negative == isNegative(kind, lesser)) {
                return nearest(kind, negative, first + second, exponent);
            }
            return first == second ? 0 : nearest(kind, negative, first - second, exponent);
        }

        static long product(int kind, long a, long b) {
            boolean negative = isNegative(kind, a) != isNegative(kind, b);
            if (isInfinite(kind, a) || isInfinite(kind, b)) {
                boolean byZero = isZero(kind, a) || isZero(kind, b);
                return byZero ? notANumber(kind) : signed(kind, negative, infinity(kind));
            }
            int roomA = roomBelow(FACTOR_TOP, magnitude(kind, a));
            int roomB = roomBelow(FACTOR_TOP, magnitude(kind, b));
            long top = topOfProduct(magnitude(kind, a) << roomA, magnitude(kind, b) << roomB);
            int exponent = exponent(kind, a) - roomA + exponent(kind, b) - roomB;
            return nearest(kind, negative, top, exponent + 2 * HALF_FACTOR - STEP);
        }

        /** The product of two factors, moved down by 44 bits: its 106 bits have no room in a long. */
        static long topOfProduct(long a, long b) {
            long mask = (1L << HALF_FACTOR) - 1;
            long highA = a >>> HALF_FACTOR;
            long lowA = a & mask;
            long highB = b >>> HALF_FACTOR;
            long lowB = b & mask;
            long low = lowA * lowB;
            long middle = highA * lowB + lowA * highB + (low >>> HALF_FACTOR);
            long high = highA * highB + (middle >>> HALF_FACTOR);
            long below = ((middle & mask) << HALF_FACTOR) | (low & mask);
            return (high << STEP) | movedDown(below, 2 * HALF_FACTOR - STEP);
        }

        static long quotient(int kind, long a, long b) {
            boolean bothInfinite = isInfinite(kind, a) && isInfinite(kind, b);
            if (bothInfinite || (isZero(kind, a) && isZero(kind, b))) {
                return notANumber(kind);
            }
            boolean negative = isNegative(kind, a) != isNegative(kind, b);
            if (isInfinite(kind, a) || isZero(kind, b)) {
                return signed(kind, negative, infinity(kind));
            }
            if (isInfinite(kind, b)) {
                return signed(kind, negative, 0);
            }
            int roomA = roomBelow(FACTOR_TOP, magnitude(kind, a));
            int roomB = roomBelow(FACTOR_TOP, magnitude(kind, b));
            long divisor = magnitude(kind, b) << roomB;
            long top = topOfQuotient(magnitude(kind, a) << roomA, divisor);
            int exponent = exponent(kind, a) - roomA - exponent(kind, b) + roomB;
            return nearest(kind, negative, top, exponent - QUOTIENT_STEPS * STEP);
        }

        /** The quotient of two factors, moved up by 60 bits. */
        static long topOfQuotient(long a, long divisor) {
            // The callers have answered for 0 already: this keeps a change there from dividing by it.
            if (divisor == 0) {
                return 0;
            }
            long quotient = a / divisor;
            long rest = a % divisor;
            for (int i = 0; i < QUOTIENT_STEPS; i++) {
                rest = rest << STEP;
                quotient = (quotient << STEP) + rest / divisor;
                rest = rest % divisor;
            }
            return rest == 0 ? quotient : quotient | 1;
        }

        static long rest(int kind, long a, long b) {
            if (isInfinite(kind, a) || isZero(kind, b)) {
                return notANumber(kind);
            }
            if (size(kind, a) < size(kind, b)) {
                return a;
            }
            int roomA = roomBelow(FACTOR_TOP, magnitude(kind, a));
            int roomB = roomBelow(FACTOR_TOP, magnitude(kind, b));
            int exponent = exponent(kind, b) - roomB;
            int above = exponent(kind, a) - roomA - exponent;
            long rest = restAbove(magnitude(kind, a) << roomA, above, magnitude(kind, b) << roomB);
            return nearest(kind, isNegative(kind, a), rest, exponent);
        }

        /** The rest of a, moved up by so many bits, by the divisor: a step at a time, as the whole has no room. */
        static long restAbove(long a, int above, long divisor) {
            // The callers have answered for 0 already: this keeps a change there from dividing by it.
            if (divisor == 0) {
                return 0;
            }
            long rest = a % divisor;
            for (int left = above; left > 0; left -= STEP) {
                rest = (rest << Math.min(left, STEP)) % divisor;
            }
            return rest;
        }
    }
}
