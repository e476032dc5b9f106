/** Promise 6: shifts of int and long by the lowest 5 and 6 bits. */
public final class ShiftTest {
    private static final long[] PLACES = {
        0, 1, 2, 7, 8, 15, 16, 30, 31, 32, 33, 47, 62, 63, 64, 65, 95, 96, 127, 128, -1, -2, -31, -32, -33, -63, -64,
        -65, 1L << 32, (1L << 32) + 5, (1L << 62) + 40, Long.MAX_VALUE, Long.MIN_VALUE
    };

    public static void main(String[] args) {
        for (int kind = 1; kind <= 5; kind++) {
            for (long a : Samples.edges(kind)) {
                for (long n : PLACES) {
                    for (int what = 6; what <= 8; what++) {
                        check(what, kind, a, n, Language.shift(what, kind, a, n), 0);
                    }
                }
            }
        }
        check(6, 1, 1, 32, 1, 0);
        check(6, 5, 1, 32, 1L << 32, 0);
        check(8, 1, -1, 28, 15, 0);
        check(8, 5, -1, 60, 15, 0);
        check(7, 5, Long.MIN_VALUE, -1, -1, 0);
        check(6, 4, 1, 31, Integer.MIN_VALUE, 0);
        checkWrong();
        Due.end();
    }

    private static void checkWrong() {
        int[] noShift = {Integer.MIN_VALUE, -1, 0, 1, 5, 9, Integer.MAX_VALUE};
        for (int what : noShift) {
            check(what, 4, 6, 1, 0, 1);
            check(what, 5, 6, 1, 0, 1);
        }
        int[] noKind = {0, 6, 7};
        for (int what = 6; what <= 8; what++) {
            for (int kind : noKind) {
                check(what, kind, 1, 1, 0, 1);
            }
            for (int kind : Samples.NO_KINDS) {
                check(what, kind, 1, 1, 0, 1);
            }
            for (int kind = 1; kind <= 5; kind++) {
                for (long bits : Samples.none(kind)) {
                    check(what, kind, bits, 1, 0, 1);
                }
            }
        }
    }

    private static void check(int what, int kind, long a, long n, long want, int fails) {
        KindNumbers numbers = new KindNumbers();
        String call = "shift(" + what + ", " + kind + ", " + a + ", " + n + ")";
        Due.same(call, numbers.shift(what, kind, a, n), want);
        Due.same(call + ", failed()", numbers.failed(), fails);
    }
}
