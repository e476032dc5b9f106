/** The document's term TO WORK: each sentence that names a boundary, by calls written out. */
public final class ToWorkTest {
    private static final int PLUS = 1;
    private static final int MINUS = 2;
    private static final int TIMES = 3;
    private static final int DIVIDE = 4;
    private static final int REST = 5;

    private static final long INT_LEAST = Integer.MIN_VALUE;
    private static final long INT_GREATEST = Integer.MAX_VALUE;
    private static final long FLOAT_GREATEST = 0x7f7fffffL;
    private static final long GREATEST = 0x7fefffffffffffffL;

    /** By kind, from byte on: the bits of 1, of 2, of both zeros and of both infinities. */
    private static final long[] ONE = {0, 1, 1, 1, 1, 1, 0x3f800000L, 0x3ff0000000000000L};
    private static final long[] TWO = {0, 2, 2, 2, 2, 2, 0x40000000L, 0x4000000000000000L};
    private static final long[] MINUS_ZERO = {0, 0, 0, 0, 0, 0, 0x80000000L, 0x8000000000000000L};
    private static final long[] INFINITY = {0, 0, 0, 0, 0, 0, 0x7f800000L, 0x7ff0000000000000L};
    private static final long[] MINUS_INFINITY = {0, 0, 0, 0, 0, 0, 0xff800000L, 0xfff0000000000000L};

    public static void main(String[] args) {
        checkGreaterKind();
        checkCastFirst();
        checkWrapInt();
        checkWrapLong();
        checkNearestFloat();
        checkNearestDouble();
        checkNearestAtTheEnds();
        checkCutTowardsZero();
        checkLeastByMinusOne();
        checkWholeByZero();
        checkQuotientOfReals();
        checkRestOfReals();
        checkZerosAndInfinities();
        checkNoNumber();
        checkNoNumberMixed();
        Due.end();
    }

    private static long f(float value) {
        return Language.ofFloat(value);
    }

    private static long d(double value) {
        return Double.doubleToRawLongBits(value);
    }

    private static void checkGreaterKind() {
        Sentence sentence = new Sentence("each is first cast to the greater of both kinds, at least int");
        for (int kind = 1; kind <= 7; kind++) {
            for (int other = 1; other <= 7; other++) {
                int in = Math.max(kind, other);
                sentence.work(PLUS, kind, ONE[kind], other, ONE[other], TWO[in]);
                sentence.work(DIVIDE, kind, ONE[kind], other, TWO[other], in < 6 ? 0 : in == 6 ? f(0.5f) : d(0.5));
            }
        }
        sentence.work(PLUS, 1, 127, 1, 1, 128);
        sentence.work(MINUS, 1, -128, 1, 1, -129);
        sentence.work(TIMES, 2, -32768, 2, -32768, 1073741824);
        sentence.work(PLUS, 3, 65535, 3, 1, 65536);
        sentence.work(MINUS, 3, 0, 3, 1, -1);
        sentence.work(PLUS, 1, -1, 3, 65535, 65534);
        sentence.work(TIMES, 3, 65535, 3, 65535, -131071);
        sentence.work(PLUS, 4, INT_GREATEST, 5, 1, 2147483648L);
        sentence.work(PLUS, 5, 1, 4, INT_GREATEST, 2147483648L);
    }

    private static void checkCastFirst() {
        Sentence sentence = new Sentence("each is first cast to the greater of both kinds, at least int");
        sentence.work(MINUS, 4, 16777217, 6, f(16777216f), 0);
        sentence.work(MINUS, 4, 16777217, 7, d(16777216.0), ONE[7]);
        sentence.work(MINUS, 6, f(16777216f), 5, 16777217, 0);
        sentence.work(MINUS, 5, 9007199254740993L, 7, d(9007199254740992.0), 0);
        sentence.work(PLUS, 5, Long.MAX_VALUE, 6, 0, 0x5f000000L);
        sentence.work(MINUS, 6, 0x3dcccccdL, 7, d(0.1), d(1.4901161138336505e-9));
    }

    private static void checkWrapInt() {
        Sentence sentence = new Sentence("+ - * wrap (whole)");
        sentence.work(PLUS, 4, INT_GREATEST, 4, 1, INT_LEAST);
        sentence.work(PLUS, 4, INT_LEAST, 4, -1, INT_GREATEST);
        sentence.work(PLUS, 4, INT_LEAST, 4, INT_LEAST, 0);
        sentence.work(PLUS, 4, INT_GREATEST, 4, INT_GREATEST, -2);
        sentence.work(MINUS, 4, INT_LEAST, 4, 1, INT_GREATEST);
        sentence.work(MINUS, 4, INT_GREATEST, 4, -1, INT_LEAST);
        sentence.work(MINUS, 4, 0, 4, INT_LEAST, INT_LEAST);
        sentence.work(TIMES, 4, INT_GREATEST, 4, 2, -2);
        sentence.work(TIMES, 4, INT_GREATEST, 4, INT_GREATEST, 1);
        sentence.work(TIMES, 4, INT_LEAST, 4, -1, INT_LEAST);
        sentence.work(TIMES, 4, 65536, 4, 65536, 0);
        sentence.work(TIMES, 4, 46341, 4, 46341, -2147479015);
    }

    private static void checkWrapLong() {
        Sentence sentence = new Sentence("+ - * wrap (whole)");
        sentence.work(PLUS, 5, Long.MAX_VALUE, 5, 1, Long.MIN_VALUE);
        sentence.work(PLUS, 5, Long.MIN_VALUE, 5, -1, Long.MAX_VALUE);
        sentence.work(PLUS, 5, Long.MIN_VALUE, 5, Long.MIN_VALUE, 0);
        sentence.work(MINUS, 5, Long.MIN_VALUE, 5, 1, Long.MAX_VALUE);
        sentence.work(MINUS, 5, Long.MAX_VALUE, 5, -1, Long.MIN_VALUE);
        sentence.work(MINUS, 5, 0, 5, Long.MIN_VALUE, Long.MIN_VALUE);
        sentence.work(TIMES, 5, Long.MAX_VALUE, 5, 2, -2);
        sentence.work(TIMES, 5, Long.MAX_VALUE, 5, Long.MAX_VALUE, 1);
        sentence.work(TIMES, 5, Long.MIN_VALUE, 5, -1, Long.MIN_VALUE);
        sentence.work(TIMES, 5, 1L << 32, 5, 1L << 32, 0);
    }

    private static void checkNearestFloat() {
        Sentence sentence = new Sentence("+ - * are the nearest");
        sentence.work(PLUS, 6, f(16777216f), 6, ONE[6], f(16777216f));
        sentence.work(PLUS, 6, f(16777218f), 6, ONE[6], f(16777220f));
        sentence.work(PLUS, 6, f(16777216f), 6, 0x3f800001L, f(16777218f));
        sentence.work(MINUS, 6, f(-16777216f), 6, ONE[6], f(-16777216f));
        sentence.work(MINUS, 6, f(-16777218f), 6, ONE[6], f(-16777220f));
        sentence.work(MINUS, 6, ONE[6], 6, 0x3f7fffffL, 0x33800000L);
        sentence.work(TIMES, 6, 0x3f800001L, 6, 0x3f800001L, 0x3f800002L);
        sentence.work(TIMES, 6, 0x3f800001L, 6, f(1.5f), 0x3fc00002L);
        sentence.work(TIMES, 6, 0x3f800003L, 6, f(1.5f), 0x3fc00004L);
    }

    private static void checkNearestDouble() {
        Sentence sentence = new Sentence("+ - * are the nearest");
        long half = 0x3ca0000000000000L;
        sentence.work(PLUS, 7, ONE[7], 7, half, ONE[7]);
        sentence.work(PLUS, 7, ONE[7], 7, half + 1, ONE[7] + 1);
        sentence.work(PLUS, 7, ONE[7] + 1, 7, half, ONE[7] + 2);
        sentence.work(PLUS, 7, ONE[7], 7, 1, ONE[7]);
        sentence.work(MINUS, 7, ONE[7], 7, 1, ONE[7]);
        sentence.work(MINUS, 7, ONE[7], 7, ONE[7] - 1, half);
        sentence.work(PLUS, 7, d(0.1), 7, d(0.2), d(0.30000000000000004));
        sentence.work(TIMES, 7, d(0.1), 7, d(3.0), d(0.30000000000000004));
        sentence.work(TIMES, 7, ONE[7] + 1, 7, ONE[7] + 1, ONE[7] + 2);
        sentence.work(TIMES, 7, ONE[7] + 1, 7, d(1.5), d(1.5) + 2);
        sentence.work(TIMES, 7, ONE[7] + 3, 7, d(1.5), d(1.5) + 4);
    }

    private static void checkNearestAtTheEnds() {
        Sentence sentence = new Sentence("+ - * are the nearest");
        sentence.work(PLUS, 6, FLOAT_GREATEST, 6, f(0x1p103f) - 1, FLOAT_GREATEST);
        sentence.work(PLUS, 6, FLOAT_GREATEST, 6, f(0x1p103f), INFINITY[6]);
        sentence.work(PLUS, 7, GREATEST, 7, d(0x1p970) - 1, GREATEST);
        sentence.work(PLUS, 7, GREATEST, 7, d(0x1p970), INFINITY[7]);
        sentence.work(MINUS, 7, d(-Double.MAX_VALUE), 7, GREATEST, MINUS_INFINITY[7]);
        sentence.work(TIMES, 6, FLOAT_GREATEST, 6, TWO[6], INFINITY[6]);
        sentence.work(TIMES, 7, GREATEST, 7, d(-2.0), MINUS_INFINITY[7]);
        for (int kind = 6; kind <= 7; kind++) {
            long half = kind == 6 ? f(0.5f) : d(0.5);
            long firstWithLead = kind == 6 ? 0x00800000L : 0x0010000000000000L;
            sentence.work(PLUS, kind, 1, kind, 1, 2);
            sentence.work(MINUS, kind, firstWithLead, kind, firstWithLead - 1, 1);
            sentence.work(PLUS, kind, firstWithLead - 1, kind, 1, firstWithLead);
            sentence.work(TIMES, kind, 1, kind, half, 0);
            sentence.work(TIMES, kind, 1, kind, half + 1, 1);
            sentence.work(TIMES, kind, 3, kind, half, 2);
            sentence.work(TIMES, kind, MINUS_ZERO[kind] + 1, kind, half, MINUS_ZERO[kind]);
            sentence.work(TIMES, kind, 1, kind, 1, 0);
        }
    }

    private static void checkCutTowardsZero() {
        Sentence sentence = new Sentence("/ and % of whole numbers cut towards 0");
        for (int kind = 4; kind <= 5; kind++) {
            sentence.work(DIVIDE, kind, 7, kind, 2, 3);
            sentence.work(DIVIDE, kind, -7, kind, 2, -3);
            sentence.work(DIVIDE, kind, 7, kind, -2, -3);
            sentence.work(DIVIDE, kind, -7, kind, -2, 3);
            sentence.work(DIVIDE, kind, -1, kind, 2, 0);
            sentence.work(REST, kind, 7, kind, 2, 1);
            sentence.work(REST, kind, -7, kind, 2, -1);
            sentence.work(REST, kind, 7, kind, -2, 1);
            sentence.work(REST, kind, -7, kind, -2, -1);
            sentence.work(REST, kind, -8, kind, 2, 0);
        }
        sentence.work(DIVIDE, 4, INT_LEAST, 4, INT_GREATEST, -1);
        sentence.work(REST, 4, INT_LEAST, 4, INT_GREATEST, -1);
        sentence.work(DIVIDE, 5, Long.MAX_VALUE, 5, Long.MIN_VALUE, 0);
        sentence.work(REST, 5, Long.MAX_VALUE, 5, Long.MIN_VALUE, Long.MAX_VALUE);
        sentence.work(REST, 5, Long.MIN_VALUE, 5, 10, -8);
    }

    private static void checkLeastByMinusOne() {
        Sentence sentence = new Sentence("the least number by -1 wraps, its rest is 0");
        for (int other = 1; other <= 5; other++) {
            if (other == 3) {
                continue;
            }
            // Worked in long, the least int is not the least number.
            sentence.work(DIVIDE, 4, INT_LEAST, other, -1, other == 5 ? 2147483648L : INT_LEAST);
            sentence.work(REST, 4, INT_LEAST, other, -1, 0);
            sentence.work(DIVIDE, 5, Long.MIN_VALUE, other, -1, Long.MIN_VALUE);
            sentence.work(REST, 5, Long.MIN_VALUE, other, -1, 0);
        }
        sentence.work(DIVIDE, 1, -128, 1, -1, 128);
        sentence.work(DIVIDE, 2, -32768, 2, -1, 32768);
        sentence.work(DIVIDE, 4, INT_LEAST + 1, 4, -1, INT_GREATEST);
        sentence.work(DIVIDE, 5, Long.MIN_VALUE + 1, 5, -1, Long.MAX_VALUE);
    }

    private static void checkWholeByZero() {
        Sentence sentence = new Sentence("/ and % of whole numbers .. by 0 they fail");
        for (int kind = 1; kind <= 5; kind++) {
            for (int other = 1; other <= 5; other++) {
                for (int what = DIVIDE; what <= REST; what++) {
                    sentence.workWithoutAnswer(what, kind, 0, other, 0);
                    sentence.workWithoutAnswer(what, kind, 1, other, 0);
                    sentence.work(what, kind, 0, other, 1, 0);
                }
                sentence.work(PLUS, kind, 1, other, 0, 1);
                sentence.work(MINUS, kind, 1, other, 0, 1);
                sentence.work(TIMES, kind, 1, other, 0, 0);
            }
        }
        sentence.workWithoutAnswer(DIVIDE, 4, INT_LEAST, 4, 0);
        sentence.workWithoutAnswer(REST, 5, Long.MIN_VALUE, 1, 0);
    }

    private static void checkQuotientOfReals() {
        Sentence sentence = new Sentence("of float and double they are the language's (/)");
        sentence.work(DIVIDE, 6, ONE[6], 6, f(3f), 0x3eaaaaabL);
        sentence.work(DIVIDE, 7, ONE[7], 7, d(3.0), 0x3fd5555555555555L);
        sentence.work(DIVIDE, 7, d(-7.0), 4, 2, d(-3.5));
        sentence.work(DIVIDE, 7, GREATEST, 7, d(0.5), INFINITY[7]);
        sentence.work(DIVIDE, 6, FLOAT_GREATEST, 6, f(-0.5f), MINUS_INFINITY[6]);
        for (int kind = 6; kind <= 7; kind++) {
            long greatest = kind == 6 ? FLOAT_GREATEST : GREATEST;
            sentence.work(DIVIDE, kind, 1, kind, TWO[kind], 0);
            sentence.work(DIVIDE, kind, 3, kind, TWO[kind], 2);
            sentence.work(DIVIDE, kind, MINUS_ZERO[kind] + 1, kind, TWO[kind], MINUS_ZERO[kind]);
            sentence.work(DIVIDE, kind, 1, kind, greatest, 0);
            sentence.work(DIVIDE, kind, greatest, kind, 1, INFINITY[kind]);
            sentence.work(DIVIDE, kind, 1, kind, 1, ONE[kind]);
        }
    }

    private static void checkRestOfReals() {
        Sentence sentence = new Sentence("of float and double they are the language's (%)");
        sentence.work(REST, 7, d(5.5), 7, d(2.0), d(1.5));
        sentence.work(REST, 7, d(-5.5), 7, d(2.0), d(-1.5));
        sentence.work(REST, 7, d(5.5), 7, d(-2.0), d(1.5));
        sentence.work(REST, 7, d(-5.5), 7, d(-2.0), d(-1.5));
        sentence.work(REST, 6, f(5.5f), 4, 2, f(1.5f));
        sentence.work(REST, 7, d(6.0), 7, d(3.0), 0);
        sentence.work(REST, 7, d(-6.0), 7, d(3.0), MINUS_ZERO[7]);
        // 2 to the 971st is 2 more than a threefold, and the greatest's 53 ones are 1 more than one.
        sentence.work(REST, 7, GREATEST, 7, d(3.0), d(2.0));
        sentence.work(REST, 6, FLOAT_GREATEST, 6, f(3f), 0);
        for (int kind = 6; kind <= 7; kind++) {
            long greatest = kind == 6 ? FLOAT_GREATEST : GREATEST;
            sentence.work(REST, kind, ONE[kind], kind, INFINITY[kind], ONE[kind]);
            sentence.work(REST, kind, greatest, kind, MINUS_INFINITY[kind], greatest);
            sentence.work(REST, kind, MINUS_ZERO[kind], kind, ONE[kind], MINUS_ZERO[kind]);
            sentence.work(REST, kind, 0, kind, INFINITY[kind], 0);
            sentence.work(REST, kind, greatest, kind, 1, 0);
            sentence.work(REST, kind, 1, kind, greatest, 1);
            sentence.work(REST, kind, greatest, kind, greatest, 0);
        }
    }

    private static void checkZerosAndInfinities() {
        Sentence sentence = new Sentence("of float and double they are the language's (zeros and infinities)");
        for (int kind = 6; kind <= 7; kind++) {
            long zero = MINUS_ZERO[kind];
            sentence.work(DIVIDE, kind, ONE[kind], kind, 0, INFINITY[kind]);
            sentence.work(DIVIDE, kind, ONE[kind], kind, zero, MINUS_INFINITY[kind]);
            sentence.work(DIVIDE, kind, ONE[kind] | zero, kind, 0, MINUS_INFINITY[kind]);
            sentence.work(DIVIDE, kind, ONE[kind], 4, 0, INFINITY[kind]);
            sentence.work(DIVIDE, 5, -1, kind, 0, MINUS_INFINITY[kind]);
            sentence.work(DIVIDE, kind, INFINITY[kind], kind, 0, INFINITY[kind]);
            sentence.work(DIVIDE, kind, INFINITY[kind], kind, TWO[kind], INFINITY[kind]);
            sentence.work(DIVIDE, kind, ONE[kind], kind, INFINITY[kind], 0);
            sentence.work(DIVIDE, kind, ONE[kind], kind, MINUS_INFINITY[kind], zero);
            sentence.work(DIVIDE, kind, 0, kind, MINUS_INFINITY[kind], zero);
            sentence.work(DIVIDE, kind, zero, kind, ONE[kind], zero);
            sentence.work(PLUS, kind, zero, kind, zero, zero);
            sentence.work(PLUS, kind, zero, kind, 0, 0);
            sentence.work(MINUS, kind, zero, kind, 0, zero);
            sentence.work(MINUS, kind, ONE[kind], kind, ONE[kind], 0);
            sentence.work(MINUS, kind, ONE[kind] | zero, kind, ONE[kind] | zero, 0);
            sentence.work(PLUS, kind, ONE[kind] | zero, kind, ONE[kind], 0);
            sentence.work(TIMES, kind, zero, kind, ONE[kind], zero);
            sentence.work(TIMES, kind, zero, kind, zero, 0);
            sentence.work(PLUS, kind, INFINITY[kind], kind, INFINITY[kind], INFINITY[kind]);
            sentence.work(MINUS, kind, INFINITY[kind], kind, MINUS_INFINITY[kind], INFINITY[kind]);
            sentence.work(MINUS, kind, ONE[kind], kind, INFINITY[kind], MINUS_INFINITY[kind]);
            sentence.work(TIMES, kind, INFINITY[kind], kind, MINUS_INFINITY[kind], MINUS_INFINITY[kind]);
        }
    }

    private static void checkNoNumber() {
        Sentence sentence = new Sentence("where the result is no number they fail");
        for (int kind = 6; kind <= 7; kind++) {
            long[] zeros = {0, MINUS_ZERO[kind]};
            long[] infinities = {INFINITY[kind], MINUS_INFINITY[kind]};
            for (int i = 0; i < 2; i++) {
                sentence.workWithoutAnswer(PLUS, kind, infinities[i], kind, infinities[1 - i]);
                sentence.workWithoutAnswer(MINUS, kind, infinities[i], kind, infinities[i]);
                for (int j = 0; j < 2; j++) {
                    sentence.workWithoutAnswer(TIMES, kind, zeros[i], kind, infinities[j]);
                    sentence.workWithoutAnswer(TIMES, kind, infinities[i], kind, zeros[j]);
                    sentence.workWithoutAnswer(DIVIDE, kind, zeros[i], kind, zeros[j]);
                    sentence.workWithoutAnswer(DIVIDE, kind, infinities[i], kind, infinities[j]);
                    sentence.workWithoutAnswer(REST, kind, infinities[i], kind, infinities[j]);
                    sentence.workWithoutAnswer(REST, kind, infinities[i], kind, zeros[j]);
                    sentence.workWithoutAnswer(REST, kind, zeros[i], kind, zeros[j]);
                }
                sentence.workWithoutAnswer(REST, kind, infinities[i], kind, ONE[kind]);
                sentence.workWithoutAnswer(REST, kind, ONE[kind], kind, zeros[i]);
            }
        }
    }

    private static void checkNoNumberMixed() {
        Sentence sentence = new Sentence("where the result is no number they fail");
        sentence.workWithoutAnswer(MINUS, 6, INFINITY[6], 7, INFINITY[7]);
        sentence.workWithoutAnswer(TIMES, 1, 0, 6, INFINITY[6]);
        sentence.workWithoutAnswer(DIVIDE, 7, 0, 4, 0);
        sentence.workWithoutAnswer(DIVIDE, 5, 0, 7, MINUS_ZERO[7]);
        sentence.workWithoutAnswer(REST, 3, 65535, 6, 0);
        sentence.workWithoutAnswer(REST, 6, ONE[6], 5, 0);
        sentence.workWithoutAnswer(REST, 7, MINUS_INFINITY[7], 5, 3);
    }
}
