import java.util.Random;

/** Promise 4: the cast is the language's; 0 and failed() 1 where there is none. */
public final class CastTest {
    public static void main(String[] args) {
        for (int from = 1; from <= 7; from++) {
            for (int to = 1; to <= 7; to++) {
                for (long bits : Samples.edges(from)) {
                    check(from, to, bits, Language.cast(from, to, bits), 0);
                }
            }
        }
        checkNamedEdges();
        checkWrong();
        checkDrawn();
        Due.end();
    }

    private static void checkNamedEdges() {
        check(5, 4, 1L << 32, 0, 0);
        check(1, 3, -1, 65535, 0);
        check(4, 6, 16777217, Language.ofFloat(16777216f), 0);
        check(4, 6, 16777219, Language.ofFloat(16777220f), 0);
        check(5, 7, 9007199254740993L, Double.doubleToRawLongBits(9007199254740992.0), 0);
        // By way of a double this one would be rounded twice.
        check(5, 6, 0x1000001000000001L, Language.ofFloat(0x1.000002p60f), 0);
        check(7, 5, Double.doubleToRawLongBits(-1e300), Long.MIN_VALUE, 0);
        check(7, 4, Double.doubleToRawLongBits(-2.9), -2, 0);
        check(7, 1, Double.doubleToRawLongBits(1e10), -1, 0);
        check(6, 2, Language.ofFloat(-1e10f), 0, 0);
        check(6, 3, 0x7f800000L, 65535, 0);
        check(7, 6, Double.doubleToRawLongBits(1e300), 0x7f800000L, 0);
        check(7, 6, Double.doubleToRawLongBits(-1e-300), 0x80000000L, 0);
        check(6, 7, 0x80000000L, Long.MIN_VALUE, 0);
        check(0, 0, 0, 0, 0);
        check(0, 0, 1, 1, 0);
    }

    private static void checkWrong() {
        for (int kind = 0; kind <= 7; kind++) {
            for (int to = 0; to <= 7; to++) {
                for (long bits : Samples.none(kind)) {
                    check(kind, to, bits, 0, 1);
                }
            }
            for (int none : Samples.NO_KINDS) {
                check(kind, none, 1, 0, 1);
                check(none, kind, 1, 0, 1);
                check(none, none, 1, 0, 1);
            }
        }
        for (int kind = 1; kind <= 7; kind++) {
            check(0, kind, 1, 0, 1);
            check(kind, 0, 1, 0, 1);
            check(kind, 0, 0, 0, 1);
        }
    }

    private static void checkDrawn() {
        Random random = new Random(4);
        for (int i = 0; i < 300000; i++) {
            int from = 1 + random.nextInt(7);
            int to = 1 + random.nextInt(7);
            long bits = Samples.drawn(from, random);
            check(from, to, bits, Language.cast(from, to, bits), 0);
        }
    }

    private static void check(int from, int to, long bits, long want, int fails) {
        KindNumbers numbers = new KindNumbers();
        String call = "cast(" + from + ", " + to + ", " + bits + ")";
        Due.same(call, numbers.cast(from, to, bits), want);
        Due.same(call + ", failed()", numbers.failed(), fails);
    }
}
