/** The document's terms A CAST and WIDENING: each sentence that names a boundary, by calls written out. */
public final class CastAndWideningTest {
    private static final long INT_LEAST = Integer.MIN_VALUE;
    private static final long INT_GREATEST = Integer.MAX_VALUE;
    private static final long FLOAT_INFINITY = 0x7f800000L;
    private static final long INFINITY = 0x7ff0000000000000L;

    public static void main(String[] args) {
        checkWholeToWhole();
        checkWholeToFloat();
        checkWholeToDouble();
        checkFloatToDouble();
        checkDoubleToFloat();
        checkDoubleToFloatEnds();
        checkBeforeThePoint();
        checkBeyondInt();
        checkBeyondLong();
        checkToByteAndShort();
        checkToChar();
        checkWidening();
        Due.end();
    }

    private static long f(float value) {
        return Language.ofFloat(value);
    }

    private static long d(double value) {
        return Double.doubleToRawLongBits(value);
    }

    private static void checkWholeToWhole() {
        Sentence sentence = new Sentence("whole to whole drops high bits");
        sentence.cast(2, 1, 127, 127);
        sentence.cast(2, 1, 128, -128);
        sentence.cast(2, 1, -129, 127);
        sentence.cast(3, 1, 255, -1);
        sentence.cast(4, 1, 256, 0);
        sentence.cast(5, 1, Long.MAX_VALUE, -1);
        sentence.cast(3, 2, 32767, 32767);
        sentence.cast(3, 2, 32768, -32768);
        sentence.cast(4, 2, -32769, 32767);
        sentence.cast(5, 2, 65536, 0);
        sentence.cast(1, 3, -128, 65408);
        sentence.cast(2, 3, -1, 65535);
        sentence.cast(4, 3, 65536, 0);
        sentence.cast(4, 3, INT_LEAST, 0);
        sentence.cast(5, 3, Long.MAX_VALUE, 65535);
        sentence.cast(5, 4, 2147483648L, INT_LEAST);
        sentence.cast(5, 4, -2147483649L, INT_GREATEST);
        sentence.cast(5, 4, 1L << 32, 0);
        sentence.cast(5, 4, Long.MIN_VALUE, 0);
        sentence.cast(5, 4, Long.MAX_VALUE, -1);
    }

    private static void checkWholeToFloat() {
        Sentence sentence = new Sentence("whole to float and double is the nearest, ties to even");
        sentence.cast(4, 6, 16777216, 0x4b800000L);
        sentence.cast(4, 6, 16777217, 0x4b800000L);
        sentence.cast(4, 6, 16777218, 0x4b800001L);
        sentence.cast(4, 6, 16777219, 0x4b800002L);
        sentence.cast(4, 6, -16777217, 0xcb800000L);
        sentence.cast(4, 6, -16777219, 0xcb800002L);
        sentence.cast(4, 6, 33554433, 0x4c000000L);
        sentence.cast(4, 6, 33554435, 0x4c000001L);
        sentence.cast(4, 6, INT_GREATEST, 0x4f000000L);
        sentence.cast(4, 6, INT_LEAST, 0xcf000000L);
        sentence.cast(5, 6, 0x7fffffbfffffffffL, 0x5effffffL);
        sentence.cast(5, 6, 0x7fffffc000000000L, 0x5f000000L);
        sentence.cast(5, 6, Long.MAX_VALUE, 0x5f000000L);
        sentence.cast(5, 6, Long.MIN_VALUE, 0xdf000000L);
        // Rounded to a double first, this one would become a tie and go down.
        sentence.cast(5, 6, 0x1000001000000001L, 0x5d800001L);
        sentence.cast(1, 6, 0, 0);
        sentence.cast(1, 6, -128, 0xc3000000L);
        sentence.cast(3, 6, 65535, 0x477fff00L);
    }

    private static void checkWholeToDouble() {
        Sentence sentence = new Sentence("whole to float and double is the nearest, ties to even");
        sentence.cast(5, 7, 9007199254740992L, 0x4340000000000000L);
        sentence.cast(5, 7, 9007199254740993L, 0x4340000000000000L);
        sentence.cast(5, 7, 9007199254740994L, 0x4340000000000001L);
        sentence.cast(5, 7, 9007199254740995L, 0x4340000000000002L);
        sentence.cast(5, 7, -9007199254740993L, 0xc340000000000000L);
        sentence.cast(5, 7, 0x7ffffffffffffdffL, 0x43dfffffffffffffL);
        sentence.cast(5, 7, 0x7ffffffffffffe00L, 0x43e0000000000000L);
        sentence.cast(5, 7, Long.MAX_VALUE, 0x43e0000000000000L);
        sentence.cast(5, 7, Long.MIN_VALUE, 0xc3e0000000000000L);
        sentence.cast(4, 7, INT_GREATEST, 0x41dfffffffc00000L);
        sentence.cast(4, 7, INT_LEAST, 0xc1e0000000000000L);
        sentence.cast(2, 7, 0, 0);
    }

    private static void checkFloatToDouble() {
        Sentence sentence = new Sentence("float to double exactly");
        sentence.cast(6, 7, 1, 0x36a0000000000000L);
        sentence.cast(6, 7, 0x80000001L, 0xb6a0000000000000L);
        sentence.cast(6, 7, 0x007fffffL, 0x380fffffc0000000L);
        sentence.cast(6, 7, 0x00800000L, 0x3810000000000000L);
        sentence.cast(6, 7, 0x7f7fffffL, 0x47efffffe0000000L);
        sentence.cast(6, 7, FLOAT_INFINITY, INFINITY);
        sentence.cast(6, 7, 0xff800000L, 0xfff0000000000000L);
        sentence.cast(6, 7, 0, 0);
        sentence.cast(6, 7, 0x80000000L, 0x8000000000000000L);
    }

    private static void checkDoubleToFloat() {
        Sentence sentence = new Sentence("double to float the nearest");
        sentence.cast(7, 6, 0x3ff0000010000000L, 0x3f800000L);
        sentence.cast(7, 6, 0x3ff0000010000001L, 0x3f800001L);
        sentence.cast(7, 6, 0x3ff000002fffffffL, 0x3f800001L);
        sentence.cast(7, 6, 0x3ff0000030000000L, 0x3f800002L);
        sentence.cast(7, 6, 0xbff0000010000000L, 0xbf800000L);
        sentence.cast(7, 6, 0xbff0000030000000L, 0xbf800002L);
        sentence.cast(7, 6, 0x3feffffff0000000L, 0x3f800000L);
        sentence.cast(7, 6, d(0.1), 0x3dcccccdL);
    }

    private static void checkDoubleToFloatEnds() {
        Sentence sentence = new Sentence("double to float the nearest");
        sentence.cast(7, 6, 0x47efffffefffffffL, 0x7f7fffffL);
        sentence.cast(7, 6, 0x47effffff0000000L, FLOAT_INFINITY);
        sentence.cast(7, 6, 0xc7efffffefffffffL, 0xff7fffffL);
        sentence.cast(7, 6, 0xc7effffff0000000L, 0xff800000L);
        sentence.cast(7, 6, 0x7fefffffffffffffL, FLOAT_INFINITY);
        sentence.cast(7, 6, INFINITY, FLOAT_INFINITY);
        sentence.cast(7, 6, 0xfff0000000000000L, 0xff800000L);
        sentence.cast(7, 6, 0x3690000000000000L, 0);
        sentence.cast(7, 6, 0x3690000000000001L, 1);
        sentence.cast(7, 6, 0x36a7ffffffffffffL, 1);
        sentence.cast(7, 6, 0x36a8000000000000L, 2);
        sentence.cast(7, 6, 0xb690000000000000L, 0x80000000L);
        sentence.cast(7, 6, 0xb690000000000001L, 0x80000001L);
        sentence.cast(7, 6, 1, 0);
        sentence.cast(7, 6, 0x8000000000000001L, 0x80000000L);
        sentence.cast(7, 6, 0x380fffffdfffffffL, 0x007fffffL);
        sentence.cast(7, 6, 0x380fffffe0000000L, 0x00800000L);
    }

    private static void checkBeforeThePoint() {
        Sentence sentence = new Sentence("to long and int the part before the point");
        for (int to = 4; to <= 5; to++) {
            sentence.cast(7, to, d(2.9), 2);
            sentence.cast(7, to, d(-2.9), -2);
            sentence.cast(7, to, 0x3fefffffffffffffL, 0);
            sentence.cast(7, to, 0xbfefffffffffffffL, 0);
            sentence.cast(7, to, 1, 0);
            sentence.cast(7, to, 0x8000000000000000L, 0);
            sentence.cast(6, to, f(-1.5f), -1);
            sentence.cast(6, to, f(8388607.5f), 8388607);
            sentence.cast(6, to, 0x80000000L, 0);
            sentence.cast(6, to, 1, 0);
        }
        sentence.cast(7, 4, d(2147483646.75), 2147483646);
        sentence.cast(7, 4, d(-2147483647.75), -2147483647);
        sentence.cast(6, 4, f(2147483520f), 2147483520);
        sentence.cast(7, 5, d(4503599627370495.5), 4503599627370495L);
        sentence.cast(7, 5, 0x43dfffffffffffffL, 9223372036854774784L);
        sentence.cast(7, 5, 0xc3dfffffffffffffL, -9223372036854774784L);
        sentence.cast(6, 5, 0x5effffffL, 9223371487098961920L);
    }

    private static void checkBeyondInt() {
        Sentence sentence = new Sentence("the least or greatest where it is beyond");
        sentence.cast(7, 4, d(2147483647.0), INT_GREATEST);
        sentence.cast(7, 4, d(2147483647.5), INT_GREATEST);
        sentence.cast(7, 4, d(2147483648.0), INT_GREATEST);
        sentence.cast(7, 4, d(4294967296.0), INT_GREATEST);
        sentence.cast(7, 4, d(1e300), INT_GREATEST);
        sentence.cast(7, 4, INFINITY, INT_GREATEST);
        sentence.cast(7, 4, d(-2147483648.0), INT_LEAST);
        sentence.cast(7, 4, d(-2147483648.5), INT_LEAST);
        sentence.cast(7, 4, d(-2147483649.0), INT_LEAST);
        sentence.cast(7, 4, d(-4294967296.0), INT_LEAST);
        sentence.cast(7, 4, 0xfff0000000000000L, INT_LEAST);
        sentence.cast(6, 4, f(2147483648f), INT_GREATEST);
        sentence.cast(6, 4, FLOAT_INFINITY, INT_GREATEST);
        sentence.cast(6, 4, f(-2147483648f), INT_LEAST);
        sentence.cast(6, 4, f(-2147483904f), INT_LEAST);
        sentence.cast(6, 4, 0xff800000L, INT_LEAST);
    }

    private static void checkBeyondLong() {
        Sentence sentence = new Sentence("the least or greatest where it is beyond");
        sentence.cast(7, 5, 0x43e0000000000000L, Long.MAX_VALUE);
        sentence.cast(7, 5, 0x43e0000000000001L, Long.MAX_VALUE);
        sentence.cast(7, 5, d(0x1p64), Long.MAX_VALUE);
        sentence.cast(7, 5, 0x7fefffffffffffffL, Long.MAX_VALUE);
        sentence.cast(7, 5, INFINITY, Long.MAX_VALUE);
        sentence.cast(7, 5, 0xc3e0000000000000L, Long.MIN_VALUE);
        sentence.cast(7, 5, 0xc3e0000000000001L, Long.MIN_VALUE);
        sentence.cast(7, 5, d(-0x1p64), Long.MIN_VALUE);
        sentence.cast(7, 5, 0xfff0000000000000L, Long.MIN_VALUE);
        sentence.cast(6, 5, 0x5f000000L, Long.MAX_VALUE);
        sentence.cast(6, 5, 0x7f7fffffL, Long.MAX_VALUE);
        sentence.cast(6, 5, FLOAT_INFINITY, Long.MAX_VALUE);
        sentence.cast(6, 5, 0xdf000000L, Long.MIN_VALUE);
        sentence.cast(6, 5, 0xff800000L, Long.MIN_VALUE);
    }

    private static void checkToByteAndShort() {
        Sentence sentence = new Sentence("to byte, short and char by way of int");
        sentence.cast(7, 1, d(127.9), 127);
        sentence.cast(7, 1, d(128.0), -128);
        sentence.cast(7, 1, d(-129.5), 127);
        sentence.cast(6, 1, f(300.7f), 44);
        sentence.cast(7, 2, d(32767.9), 32767);
        sentence.cast(7, 2, d(32768.0), -32768);
        sentence.cast(6, 2, f(-32769.5f), 32767);
        sentence.cast(6, 2, f(65536.5f), 0);
        for (int to = 1; to <= 2; to++) {
            sentence.cast(7, to, d(2147483648.0), -1);
            // By way of long this would be 5.
            sentence.cast(7, to, d(4294967301.0), -1);
            sentence.cast(7, to, d(-4294967301.0), 0);
            sentence.cast(7, to, INFINITY, -1);
            sentence.cast(7, to, 0xfff0000000000000L, 0);
            sentence.cast(6, to, f(1e10f), -1);
            sentence.cast(6, to, f(-1e10f), 0);
            sentence.cast(6, to, FLOAT_INFINITY, -1);
            sentence.cast(6, to, 0xff800000L, 0);
        }
    }

    private static void checkToChar() {
        Sentence sentence = new Sentence("to byte, short and char by way of int");
        sentence.cast(7, 3, d(65535.9), 65535);
        sentence.cast(7, 3, d(65536.0), 0);
        sentence.cast(7, 3, d(-0.9), 0);
        sentence.cast(7, 3, d(-1.0), 65535);
        sentence.cast(6, 3, f(-2.5f), 65534);
        sentence.cast(7, 3, d(4294967301.0), 65535);
        sentence.cast(7, 3, d(-4294967301.0), 0);
        sentence.cast(7, 3, INFINITY, 65535);
        sentence.cast(7, 3, 0xfff0000000000000L, 0);
        sentence.cast(6, 3, f(1e10f), 65535);
        sentence.cast(6, 3, f(-1e10f), 0);
        sentence.cast(6, 3, FLOAT_INFINITY, 65535);
        sentence.cast(6, 3, 0xff800000L, 0);
    }

    private static void checkWidening() {
        Sentence sentence = new Sentence("WIDENING is a cast of these pairs (nineteen)");
        int[][] pairs = {{1, 2}, {1, 4}, {1, 5}, {1, 6}, {1, 7}, {2, 4}, {2, 5}, {2, 6}, {2, 7}, {3, 4}, {3, 5},
            {3, 6}, {3, 7}, {4, 5}, {4, 6}, {4, 7}, {5, 6}, {5, 7}, {6, 7}};
        Due.same("pairs that widen", pairs.length, 19);
        boolean[] widens = new boolean[64];
        for (int[] pair : pairs) {
            widens[8 * pair[0] + pair[1]] = true;
        }
        for (int from = 0; from <= 7; from++) {
            for (int to = 0; to <= 7; to++) {
                sentence.widens(from, to, from == to || widens[8 * from + to]);
            }
        }
    }
}
