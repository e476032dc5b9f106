/** Promises 2 to 8: each sentence that names a boundary or a refused call, by calls written out. */
public final class PromisesTest {
    private static final long MINUS_ZERO = 0x8000000000000000L;
    private static final long FLOAT_MINUS_ZERO = 0x80000000L;

    /** By kind: bits just outside its values; a long has none. */
    private static final long[][] NONE = {
        {-1, 2}, {-129, 128}, {-32769, 32768}, {-1, 65536}, {-2147483649L, 2147483648L}, {},
        {-1, 0x7f800001L, 0x100000000L}, {0x7ff0000000000001L, -1}
    };

    public static void main(String[] args) {
        checkNoSuchKind();
        checkCastBits();
        checkCastKinds();
        checkWorkWhat();
        checkWorkBits();
        checkWorkKinds();
        checkOneGoesBeforeEight();
        checkShiftToInt();
        checkShiftPlaces();
        checkShiftWays();
        checkShiftWhat();
        checkShiftKinds();
        checkShiftBits();
        checkCompareEnds();
        checkCompareZeros();
        checkCompareInWorkKind();
        checkCompareKinds();
        checkCompareBits();
        checkOrderEnds();
        checkOrderBooleans();
        checkOrderZeros();
        checkOrderBits();
        checkAtMost512Calls();
        Due.end();
    }

    private static void checkNoSuchKind() {
        Sentence has = new Sentence("has: false if there is no such kind");
        Sentence widens = new Sentence("widens: false if there is no such kind");
        Sentence order = new Sentence("order: 2, and failed() 1: no such kind");
        for (int none : Samples.NO_KINDS) {
            for (long bits = -1; bits <= 1; bits++) {
                has.has(none, bits, false);
            }
            order.orderRefused(none, 0, 0);
            order.orderRefused(none, 0, 1);
            widens.widens(none, none, false);
            for (int kind = 0; kind <= 7; kind++) {
                widens.widens(none, kind, false);
                widens.widens(kind, none, false);
            }
        }
    }

    private static void checkCastBits() {
        Sentence sentence = new Sentence("cast: 0, and failed() is 1, if bits are none of from");
        for (int kind = 0; kind <= 7; kind++) {
            for (long bits : NONE[kind]) {
                for (int to = 0; to <= 7; to++) {
                    sentence.castRefused(kind, to, bits);
                }
            }
        }
    }

    private static void checkWorkBits() {
        Sentence sentence = new Sentence("work: 0, and failed() 1: bits that are none");
        for (int kind = 1; kind <= 7; kind++) {
            for (long bits : NONE[kind]) {
                for (int other = 1; other <= 7; other++) {
                    for (int what = 1; what <= 5; what++) {
                        sentence.workRefused(what, kind, bits, other, 1);
                        sentence.workRefused(what, other, 1, kind, bits);
                    }
                }
            }
        }
    }

    private static void checkShiftBits() {
        Sentence sentence = new Sentence("shift: 0, and failed() 1: bits that are none");
        for (int kind = 1; kind <= 5; kind++) {
            for (long bits : NONE[kind]) {
                for (int what = 6; what <= 8; what++) {
                    sentence.shiftRefused(what, kind, bits, 1);
                }
            }
        }
    }

    private static void checkCompareBits() {
        Sentence sentence = new Sentence("compare: 2, and failed() 1, as work(): bits that are none");
        for (int kind = 1; kind <= 7; kind++) {
            for (long bits : NONE[kind]) {
                for (int other = 1; other <= 7; other++) {
                    sentence.compareRefused(kind, bits, other, 1);
                    sentence.compareRefused(other, 1, kind, bits);
                }
            }
        }
    }

    private static void checkOrderBits() {
        Sentence sentence = new Sentence("order: 2, and failed() 1: bits that are none");
        for (int kind = 0; kind <= 7; kind++) {
            for (long bits : NONE[kind]) {
                sentence.orderRefused(kind, bits, 1);
                sentence.orderRefused(kind, 1, bits);
                sentence.orderRefused(kind, bits, bits);
            }
        }
    }

    private static void checkCastKinds() {
        Sentence sentence = new Sentence("cast: 0, and failed() is 1, if the kinds are not both numbers or the same");
        for (int kind = 0; kind <= 7; kind++) {
            sentence.cast(kind, kind, 1, 1);
            for (int none : Samples.NO_KINDS) {
                sentence.castRefused(kind, none, 1);
                sentence.castRefused(none, kind, 1);
                sentence.castRefused(none, none, 1);
            }
        }
        for (int kind = 1; kind <= 7; kind++) {
            sentence.castRefused(0, kind, 1);
            sentence.castRefused(kind, 0, 1);
        }
        sentence.cast(6, 6, FLOAT_MINUS_ZERO, FLOAT_MINUS_ZERO);
        sentence.cast(7, 7, MINUS_ZERO, MINUS_ZERO);
    }

    private static void checkWorkWhat() {
        Sentence sentence = new Sentence("work: 0, and failed() 1: another what");
        int[] others = {Integer.MIN_VALUE, -1, 0, 6, 7, 8, 9, Integer.MAX_VALUE};
        for (int what : others) {
            for (int kind = 1; kind <= 7; kind++) {
                sentence.workRefused(what, kind, 1, kind, 1);
            }
        }
    }

    private static void checkWorkKinds() {
        Sentence sentence = new Sentence("work: 0, and failed() 1: a kind that is no number");
        for (int what = 1; what <= 5; what++) {
            sentence.workRefused(what, 0, 1, 0, 1);
            for (int kind = 1; kind <= 7; kind++) {
                sentence.workRefused(what, 0, 1, kind, 1);
                sentence.workRefused(what, kind, 1, 0, 1);
                for (int none : Samples.NO_KINDS) {
                    sentence.workRefused(what, none, 1, kind, 1);
                    sentence.workRefused(what, kind, 1, none, 1);
                }
            }
        }
    }

    private static void checkOneGoesBeforeEight() {
        Sentence sentence = new Sentence("work: 0, and failed() 1: ..; 8 as said (a wrong call has no result to miss)");
        sentence.workRefused(6, 4, 1, 4, 0);
        sentence.workRefused(4, 1, 128, 4, 0);
        sentence.workRefused(5, 0, 1, 4, 0);
        sentence.workRefused(4, 4, 1, 0, 0);
        sentence.workRefused(0, 7, 0, 7, 0);
        sentence.workWithoutAnswer(4, 1, 127, 4, 0);
    }

    private static void checkShiftToInt() {
        Sentence sentence = new Sentence("shift: a, cast to int if its kind is less");
        sentence.shift(6, 1, 127, 1, 254);
        sentence.shift(6, 1, -128, 24, Integer.MIN_VALUE);
        sentence.shift(6, 1, -128, 25, 0);
        sentence.shift(8, 1, -1, 24, 255);
        sentence.shift(6, 2, 32767, 1, 65534);
        sentence.shift(8, 2, -32768, 1, 2147467264);
        sentence.shift(6, 3, 65535, 16, -65536);
        sentence.shift(7, 3, 65535, 15, 1);
        sentence.shift(6, 4, 1, 31, Integer.MIN_VALUE);
        sentence.shift(6, 5, 1, 31, 2147483648L);
    }

    private static void checkShiftPlaces() {
        Sentence sentence = new Sentence("shift: by the lowest 5 bits of n (6 for long)");
        for (int kind = 1; kind <= 4; kind++) {
            sentence.shift(6, kind, 1, 0, 1);
            sentence.shift(6, kind, 1, 31, Integer.MIN_VALUE);
            sentence.shift(6, kind, 1, 32, 1);
            sentence.shift(6, kind, 1, 33, 2);
            sentence.shift(6, kind, 1, 64, 1);
            sentence.shift(6, kind, 1, -1, Integer.MIN_VALUE);
            sentence.shift(6, kind, 1, -32, 1);
            sentence.shift(6, kind, 1, 1L << 32, 1);
            sentence.shift(6, kind, 1, Long.MIN_VALUE, 1);
            sentence.shift(6, kind, 1, Long.MAX_VALUE, Integer.MIN_VALUE);
        }
        sentence.shift(6, 5, 1, 0, 1);
        sentence.shift(6, 5, 1, 32, 1L << 32);
        sentence.shift(6, 5, 1, 63, Long.MIN_VALUE);
        sentence.shift(6, 5, 1, 64, 1);
        sentence.shift(6, 5, 1, 65, 2);
        sentence.shift(6, 5, 1, -1, Long.MIN_VALUE);
        sentence.shift(6, 5, 1, -64, 1);
        sentence.shift(6, 5, 1, 1L << 32, 1);
        sentence.shift(6, 5, 1, Long.MIN_VALUE, 1);
        sentence.shift(6, 5, 1, Long.MAX_VALUE, Long.MIN_VALUE);
    }

    private static void checkShiftWays() {
        Sentence sentence = new Sentence("shift: what 6 left, 7 right with the sign, 8 right with 0");
        sentence.shift(6, 4, -2147483648L, 1, 0);
        sentence.shift(7, 4, -2147483648L, 31, -1);
        sentence.shift(8, 4, -2147483648L, 31, 1);
        sentence.shift(7, 4, -1, 31, -1);
        sentence.shift(8, 4, -1, 0, -1);
        sentence.shift(8, 4, -1, 1, 2147483647);
        sentence.shift(7, 4, 2147483647, 31, 0);
        sentence.shift(6, 5, Long.MIN_VALUE, 1, 0);
        sentence.shift(7, 5, Long.MIN_VALUE, 63, -1);
        sentence.shift(8, 5, Long.MIN_VALUE, 63, 1);
        sentence.shift(8, 5, -1, 0, -1);
        sentence.shift(8, 5, -1, 1, Long.MAX_VALUE);
    }

    private static void checkShiftWhat() {
        Sentence sentence = new Sentence("shift: 0, and failed() 1: another what");
        int[] others = {Integer.MIN_VALUE, -1, 0, 1, 2, 3, 4, 5, 9, Integer.MAX_VALUE};
        for (int what : others) {
            for (int kind = 1; kind <= 5; kind++) {
                sentence.shiftRefused(what, kind, 1, 1);
            }
        }
    }

    private static void checkShiftKinds() {
        Sentence sentence = new Sentence("shift: 0, and failed() 1: kind not 1 to 5");
        for (int what = 6; what <= 8; what++) {
            sentence.shiftRefused(what, 0, 1, 0);
            sentence.shiftRefused(what, 6, 1, 0);
            sentence.shiftRefused(what, 7, 1, 0);
            for (int none : Samples.NO_KINDS) {
                sentence.shiftRefused(what, none, 1, 0);
            }
            for (int kind = 1; kind <= 5; kind++) {
                sentence.shift(what, kind, 1, 0, 1);
            }
        }
    }

    private static void checkCompareZeros() {
        Sentence sentence = new Sentence("compare: equal to (both zeros are)");
        long[][] zeros = {{}, {0}, {0}, {0}, {0}, {0}, {0, FLOAT_MINUS_ZERO}, {0, MINUS_ZERO}};
        for (int kind = 1; kind <= 7; kind++) {
            for (int other = 1; other <= 7; other++) {
                for (long a : zeros[kind]) {
                    for (long b : zeros[other]) {
                        sentence.compare(kind, a, other, b, 0);
                    }
                }
            }
        }
        // The numbers next to zero are not equal to it.
        sentence.compare(7, MINUS_ZERO + 1, 7, 0, -1);
        sentence.compare(7, MINUS_ZERO, 7, 1, -1);
        sentence.compare(6, 1, 6, FLOAT_MINUS_ZERO, 1);
        sentence.compare(6, 0, 6, FLOAT_MINUS_ZERO + 1, 1);
    }

    private static void checkCompareInWorkKind() {
        Sentence sentence = new Sentence("compare: in the kind in which is worked");
        sentence.compare(1, -1, 3, 65535, -1);
        sentence.compare(2, -1, 3, 65535, -1);
        sentence.compare(4, 2147483647, 5, 2147483648L, -1);
        sentence.compare(4, 16777217, 6, 0x4b800000L, 0);
        sentence.compare(4, 16777218, 6, 0x4b800000L, 1);
        sentence.compare(4, 16777217, 7, 0x4170000000000000L, 1);
        sentence.compare(5, Long.MAX_VALUE, 6, 0x5f000000L, 0);
        sentence.compare(5, Long.MAX_VALUE, 7, 0x43e0000000000000L, 0);
        sentence.compare(5, 9007199254740993L, 7, 0x4340000000000000L, 0);
        sentence.compare(6, 0x3dcccccdL, 7, 0x3fb999999999999aL, 1);
    }

    private static void checkCompareEnds() {
        Sentence sentence = new Sentence("compare: -1, 0, 1 as a is less than, equal to, greater than b");
        sentence.compare(4, -2147483648L, 4, 2147483647, -1);
        sentence.compare(5, Long.MIN_VALUE, 5, Long.MAX_VALUE, -1);
        sentence.compare(5, Long.MAX_VALUE, 5, Long.MIN_VALUE, 1);
        sentence.compare(6, 0xff800000L, 6, 0xff7fffffL, -1);
        sentence.compare(6, 0x7f800000L, 6, 0x7f7fffffL, 1);
        sentence.compare(7, 0xfff0000000000000L, 7, 0xffefffffffffffffL, -1);
        sentence.compare(7, 0x7ff0000000000000L, 7, 0x7fefffffffffffffL, 1);
        sentence.compare(6, 0x7f800000L, 7, 0x7ff0000000000000L, 0);
        sentence.compare(7, 0x7ff0000000000000L, 5, Long.MAX_VALUE, 1);
        sentence.compare(7, 0xbff0000000000000L, 7, 0xc000000000000000L, 1);
    }

    private static void checkCompareKinds() {
        Sentence sentence = new Sentence("compare: 2, and failed() 1, as work(): a kind that is no number");
        sentence.compareRefused(0, 1, 0, 1);
        for (int kind = 1; kind <= 7; kind++) {
            sentence.compareRefused(0, 1, kind, 1);
            sentence.compareRefused(kind, 1, 0, 1);
            for (int none : Samples.NO_KINDS) {
                sentence.compareRefused(none, 1, kind, 1);
                sentence.compareRefused(kind, 1, none, 1);
            }
        }
    }

    private static void checkOrderBooleans() {
        Sentence sentence = new Sentence("order: booleans too (false first)");
        sentence.order(0, 0, 0, 0);
        sentence.order(0, 0, 1, -1);
        sentence.order(0, 1, 0, 1);
        sentence.order(0, 1, 1, 0);
    }

    private static void checkOrderZeros() {
        Sentence sentence = new Sentence("order: but minus zero is before zero");
        long[] minusZeros = {FLOAT_MINUS_ZERO, MINUS_ZERO};
        for (int kind = 6; kind <= 7; kind++) {
            long minusZero = minusZeros[kind - 6];
            sentence.order(kind, minusZero, 0, -1);
            sentence.order(kind, 0, minusZero, 1);
            sentence.order(kind, minusZero, minusZero, 0);
            sentence.order(kind, 0, 0, 0);
            sentence.order(kind, minusZero + 1, minusZero, -1);
            sentence.order(kind, minusZero, 1, -1);
        }
    }

    private static void checkOrderEnds() {
        Sentence sentence = new Sentence("order: the same for two values of one kind");
        sentence.order(1, -128, 127, -1);
        sentence.order(2, 32767, -32768, 1);
        sentence.order(3, 65535, 0, 1);
        sentence.order(4, -2147483648L, 2147483647, -1);
        sentence.order(5, Long.MAX_VALUE, Long.MIN_VALUE, 1);
        sentence.order(6, 0xff800000L, 0xff7fffffL, -1);
        sentence.order(6, 0x7f7fffffL, 0x7f800000L, -1);
        sentence.order(7, 0xfff0000000000000L, 0xffefffffffffffffL, -1);
        sentence.order(7, 0x7ff0000000000000L, 0x7fefffffffffffffL, 1);
        sentence.order(7, 0x7ff0000000000000L, 0x7ff0000000000000L, 0);
    }

    private static void checkAtMost512Calls() {
        KindNumbers numbers = new KindNumbers();
        for (int call = 1; call <= 510; call++) {
            numbers.work(4, 4, call, 4, call % 2);
        }
        Due.same("An object is used for at most 512 calls: the 511th", numbers.failed(), 8);
        Due.same("An object is used for at most 512 calls: the 512th", numbers.work(1, 4, 510, 1, 2), 512);
    }
}
