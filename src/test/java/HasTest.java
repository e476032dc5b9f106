import java.util.Random;

/** Promise 2: which bits are those of a value of the kind. */
public final class HasTest {
    public static void main(String[] args) {
        for (int kind = 0; kind <= 7; kind++) {
            for (long bits : Samples.edges(kind)) {
                check(kind, bits, true);
            }
            for (long bits : Samples.none(kind)) {
                check(kind, bits, false);
            }
        }
        for (int kind : Samples.NO_KINDS) {
            check(kind, 0, false);
            check(kind, 1, false);
            check(kind, -1, false);
        }
        checkEnds();
        checkDrawn();
        Due.end();
    }

    private static void checkEnds() {
        check(0, 0, true);
        check(0, 1, true);
        check(1, -128, true);
        check(1, 127, true);
        check(2, -32768, true);
        check(2, 32767, true);
        check(3, 0, true);
        check(3, 65535, true);
        check(4, Integer.MIN_VALUE, true);
        check(4, Integer.MAX_VALUE, true);
        check(5, Long.MIN_VALUE, true);
        check(5, Long.MAX_VALUE, true);
        check(6, 0x7f800000L, true);
        check(6, 0x80000000L, true);
        check(6, 0xff800000L, true);
        check(7, 0x7ff0000000000000L, true);
        check(7, 0xfff0000000000000L, true);
        check(7, Long.MIN_VALUE, true);
    }

    private static void checkDrawn() {
        Random random = new Random(2);
        for (int i = 0; i < 100000; i++) {
            int kind = random.nextInt(10) - 1;
            long bits = random.nextLong() >> random.nextInt(64);
            check(kind, bits, Language.has(kind, bits));
        }
    }

    private static void check(int kind, long bits, boolean want) {
        Due.same("has(" + kind + ", " + bits + ")", new KindNumbers().has(kind, bits), want);
    }
}
