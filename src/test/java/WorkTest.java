import java.util.Random;

/** Promise 5: arithmetic in the greater kind, at least int; 1 and 8 as the document says. */
public final class WorkTest {
    private static final long MINUS_ZERO = Long.MIN_VALUE;
    private static final long INFINITY = 0x7ff0000000000000L;

    public static void main(String[] args) {
        for (int kind = 4; kind <= 7; kind++) {
            checkEdges(kind, kind);
        }
        checkEdges(1, 3);
        checkEdges(5, 6);
        checkEdges(6, 7);
        checkEdges(7, 4);
        checkNamedEdges();
        checkWrong();
        checkDrawn();
        Due.end();
    }

    private static void checkEdges(int kind, int other) {
        long[] second = thinned(Samples.edges(other));
        for (long a : thinned(Samples.edges(kind))) {
            for (long b : second) {
                for (int what = 1; what <= 5; what++) {
                    checkByLanguage(what, kind, a, other, b);
                }
            }
        }
    }

    /** Every pair of a long's edges would be too many: the ends and every third are kept. */
    private static long[] thinned(long[] bits) {
        if (bits.length < 200) {
            return bits;
        }
        return java.util.stream.IntStream.range(0, bits.length)
            .filter(i -> i % 3 == 0 || i < 4 || i >= bits.length - 4 || Math.abs(bits[i]) < 4)
            .mapToLong(i -> bits[i]).toArray();
    }

    private static void checkNamedEdges() {
        check(1, 1, 127, 1, 127, 254, 0);
        check(1, 3, 65535, 3, 65535, 131070, 0);
        check(4, 4, -7, 4, 2, -3, 0);
        check(5, 4, -7, 4, 2, -1, 0);
        check(4, 5, Long.MIN_VALUE, 4, -1, Long.MIN_VALUE, 0);
        check(5, 5, Long.MIN_VALUE, 4, -1, 0, 0);
        check(5, 1, 5, 3, 0, 0, 8);
        check(4, 5, 0, 5, 0, 0, 8);
        check(5, 5, 0, 1, 0, 0, 8);
        check(2, 7, INFINITY, 7, INFINITY, 0, 8);
        check(1, 7, INFINITY, 7, INFINITY, INFINITY, 0);
        check(3, 7, INFINITY, 7, MINUS_ZERO, 0, 8);
        check(4, 7, INFINITY, 7, INFINITY, 0, 8);
        check(5, 7, INFINITY, 4, 3, 0, 8);
        check(5, 6, 0x3f800000L, 6, 0, 0, 8);
        check(5, 4, 7, 7, INFINITY, Double.doubleToRawLongBits(7.0), 0);
        check(5, 7, MINUS_ZERO, 4, 3, MINUS_ZERO, 0);
        check(1, 7, MINUS_ZERO, 7, MINUS_ZERO, MINUS_ZERO, 0);
        check(1, 7, MINUS_ZERO, 7, 0, 0, 0);
        check(5, 7, Double.doubleToRawLongBits(-5.5), 4, 2, Double.doubleToRawLongBits(-1.5), 0);
        check(5, 7, Double.doubleToRawLongBits(Double.MAX_VALUE), 7, 3,
            Double.doubleToRawLongBits(Double.MAX_VALUE % (3 * Double.MIN_VALUE)), 0);
        check(1, 5, 16777217, 6, 0, Language.ofFloat(16777216f), 0);
        check(4, 6, 0x3f800000L, 6, 0x80000000L, 0xff800000L, 0);
    }

    private static void checkWrong() {
        int[] noWork = {Integer.MIN_VALUE, -1, 0, 6, 7, 8, Integer.MAX_VALUE};
        for (int what : noWork) {
            check(what, 4, 6, 4, 3, 0, 1);
            check(what, 4, 6, 4, 0, 0, 1);
            check(what, 7, 0, 7, 0, 0, 1);
        }
        for (int what = 1; what <= 5; what++) {
            for (int kind = 0; kind <= 7; kind++) {
                for (long bits : Samples.none(kind)) {
                    check(what, kind, bits, 4, 0, 0, 1);
                    check(what, 4, 1, kind, bits, 0, 1);
                }
                check(what, 0, 1, kind, 1, 0, 1);
                check(what, kind, 1, 0, 1, 0, 1);
                for (int none : Samples.NO_KINDS) {
                    check(what, none, 1, kind, 1, 0, 1);
                    check(what, kind, 1, none, 1, 0, 1);
                }
            }
        }
    }

    private static void checkDrawn() {
        Random random = new Random(5);
        for (int i = 0; i < 600000; i++) {
            int kind = 1 + random.nextInt(7);
            int other = random.nextBoolean() ? kind : 1 + random.nextInt(7);
            long a = Samples.drawn(kind, random);
            long b = Samples.drawn(other, random);
            checkByLanguage(1 + random.nextInt(5), kind, a, other, b);
        }
    }

    private static void checkByLanguage(int what, int kind, long a, int other, long b) {
        check(what, kind, a, other, b, Language.work(what, kind, a, other, b),
            Language.workFails(what, kind, a, other, b));
    }

    private static void check(int what, int kind, long a, int other, long b, long want, int fails) {
        KindNumbers numbers = new KindNumbers();
        String call = "work(" + what + ", " + kind + ", " + a + ", " + other + ", " + b + ")";
        Due.same(call, numbers.work(what, kind, a, other, b), want);
        Due.same(call + ", failed()", numbers.failed(), fails);
    }
}
