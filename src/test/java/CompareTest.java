import java.util.Random;

/** Promise 7: less, equal, greater in the kind in which is worked; both zeros are equal. */
public final class CompareTest {
    public static void main(String[] args) {
        for (int kind = 1; kind <= 7; kind++) {
            for (int other = 1; other <= 7; other++) {
                checkEdges(kind, other);
            }
        }
        checkNamedEdges();
        checkWrong();
        checkDrawn();
        Due.end();
    }

    private static void checkEdges(int kind, int other) {
        long[] first = Samples.edges(kind);
        long[] second = Samples.edges(other);
        int step = first.length * second.length > 40000 ? 3 : 1;
        for (int i = 0; i < first.length; i++) {
            for (int j = i % step; j < second.length; j += step) {
                check(kind, first[i], other, second[j], Language.compare(kind, first[i], other, second[j]), 0);
            }
        }
    }

    private static void checkNamedEdges() {
        check(7, Long.MIN_VALUE, 7, 0, 0, 0);
        check(6, 0, 6, 0x80000000L, 0, 0);
        check(6, 0x80000000L, 7, Long.MIN_VALUE, 0, 0);
        check(4, 16777217, 6, Language.ofFloat(16777216f), 0, 0);
        check(4, 16777217, 7, Double.doubleToRawLongBits(16777216.0), 1, 0);
        check(1, -1, 3, 65535, -1, 0);
        check(5, Long.MIN_VALUE, 5, Long.MAX_VALUE, -1, 0);
        check(7, 0x7ff0000000000000L, 5, Long.MAX_VALUE, 1, 0);
        check(7, 0xfff0000000000000L, 7, 0xffefffffffffffffL, -1, 0);
        check(6, 0x7f800000L, 7, 0x7ff0000000000000L, 0, 0);
    }

    private static void checkWrong() {
        for (int kind = 0; kind <= 7; kind++) {
            for (long bits : Samples.none(kind)) {
                check(kind, bits, 4, 0, 2, 1);
                check(4, 0, kind, bits, 2, 1);
            }
            check(0, 1, kind, 1, 2, 1);
            check(kind, 1, 0, 1, 2, 1);
            for (int none : Samples.NO_KINDS) {
                check(none, 1, kind, 1, 2, 1);
                check(kind, 1, none, 1, 2, 1);
            }
        }
    }

    private static void checkDrawn() {
        Random random = new Random(7);
        for (int i = 0; i < 200000; i++) {
            int kind = 1 + random.nextInt(7);
            int other = 1 + random.nextInt(7);
            long a = Samples.drawn(kind, random);
            long b = random.nextInt(4) == 0 ? Language.cast(kind, other, a) : Samples.drawn(other, random);
            check(kind, a, other, b, Language.compare(kind, a, other, b), 0);
        }
    }

    private static void check(int kind, long a, int other, long b, int want, int fails) {
        KindNumbers numbers = new KindNumbers();
        String call = "compare(" + kind + ", " + a + ", " + other + ", " + b + ")";
        Due.same(call, numbers.compare(kind, a, other, b), want);
        Due.same(call + ", failed()", numbers.failed(), fails);
    }
}
