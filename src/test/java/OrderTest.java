/** Promise 8: the order of two values of one kind; minus zero is before zero. */
public final class OrderTest {
    public static void main(String[] args) {
        for (int kind = 0; kind <= 7; kind++) {
            long[] edges = Samples.edges(kind);
            for (long a : edges) {
                for (long b : edges) {
                    check(kind, a, b, Language.order(kind, a, b), 0);
                }
            }
        }
        checkNamedEdges();
        checkWrong();
        Due.end();
    }

    private static void checkNamedEdges() {
        check(0, 0, 1, -1, 0);
        check(0, 1, 0, 1, 0);
        check(0, 1, 1, 0, 0);
        check(7, Long.MIN_VALUE, 0, -1, 0);
        check(7, 0, Long.MIN_VALUE, 1, 0);
        check(7, Long.MIN_VALUE, Long.MIN_VALUE, 0, 0);
        check(7, Long.MIN_VALUE + 1, Long.MIN_VALUE, -1, 0);
        check(6, 0x80000000L, 0, -1, 0);
        check(6, 0x80000001L, 0x80000000L, -1, 0);
        check(6, 0xff800000L, 0x7f800000L, -1, 0);
        check(5, Long.MIN_VALUE, Long.MAX_VALUE, -1, 0);
        check(3, 65535, 0, 1, 0);
    }

    private static void checkWrong() {
        for (int kind = 0; kind <= 7; kind++) {
            for (long bits : Samples.none(kind)) {
                check(kind, bits, 1, 2, 1);
                check(kind, 1, bits, 2, 1);
                check(kind, bits, bits, 2, 1);
            }
        }
        for (int kind : Samples.NO_KINDS) {
            check(kind, 0, 0, 2, 1);
            check(kind, 0, 1, 2, 1);
        }
    }

    private static void check(int kind, long a, long b, int want, int fails) {
        KindNumbers numbers = new KindNumbers();
        String call = "order(" + kind + ", " + a + ", " + b + ")";
        Due.same(call, numbers.order(kind, a, b), want);
        Due.same(call + ", failed()", numbers.failed(), fails);
    }
}
