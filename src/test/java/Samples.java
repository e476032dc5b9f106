import java.util.Random;
import java.util.TreeSet;

/** Bits to try: the edges of each kind, and some more drawn from a fixed seed. */
final class Samples {
    static final int[] NO_KINDS = {Integer.MIN_VALUE, -1, 8, 9, 64, Integer.MAX_VALUE};

    private static final double[] REALS = {
        0.0, Double.MIN_VALUE, 3 * Double.MIN_VALUE, Double.MIN_NORMAL, Math.nextDown(Double.MIN_NORMAL),
        Float.MIN_VALUE, Float.MIN_VALUE / 2.0, Math.nextUp(Float.MIN_VALUE / 2.0), Float.MIN_VALUE * 1.5,
        Float.MIN_NORMAL, Math.nextDown(Float.MIN_NORMAL), 1e-300, 1e-30, 0.1, 0.1f, 0.3, 0.5, 0.75,
        Math.nextDown(1.0), Math.nextDown(1.0f), 1.0, Math.nextUp(1.0), Math.nextUp(1.0f), 1.5, 2.0, 2.5, 3.0,
        5.5, 7.0, 10.0, 127.0, 127.9, 128.0, 255.5, 32767.5, 32768.0, 65535.0, 65535.9, 65536.0, 8388607.5,
        16777215.0, 16777216.0, 16777217.0, 16777218.0, 16777219.0, 2147483520.0, 2147483647.0, 2147483647.5,
        2147483648.0, 2147483649.0, 4294967295.0, 4294967296.0, 4503599627370495.5, 9007199254740991.0,
        9007199254740992.0, 9007199254740994.0, Math.nextDown(0x1p63), Math.nextDown(0x1p63f), 0x1p63,
        Math.nextUp(0x1p63), 0x1p64, 1e30, Float.MAX_VALUE, Math.nextDown(0x1.ffffffp127), 0x1.ffffffp127,
        0x1p128, 1e300, Double.MAX_VALUE / 2, Math.nextDown(Double.MAX_VALUE), Double.MAX_VALUE,
        Double.POSITIVE_INFINITY
    };

    private Samples() {
    }

    static long[] edges(int kind) {
        TreeSet<Long> all = new TreeSet<>();
        if (kind == 0) {
            all.add(0L);
            all.add(1L);
        } else if (kind <= 5) {
            addWholes(kind, all);
        } else {
            for (double real : REALS) {
                all.add(Language.ofDouble(kind, real));
                all.add(Language.ofDouble(kind, -real));
            }
        }
        return all.stream().mapToLong(Long::longValue).toArray();
    }

    private static void addWholes(int kind, TreeSet<Long> all) {
        for (int power = 0; power < 64; power++) {
            for (long near = -2; near <= 2; near++) {
                addWhole(kind, (1L << power) + near, all);
                addWhole(kind, -(1L << power) + near, all);
            }
        }
        long[] others = {10, 300, 40000, 16777217, 16777219, 33554435, 9007199254740993L, 9007199254740995L,
            0x7fffff4000000000L, 0x7fffffbfffffffffL, 0x7fffffc000000000L, 0x7ffffffffffffe00L, 0x7fffffffffffffbfL};
        for (long other : others) {
            addWhole(kind, other, all);
            addWhole(kind, -other, all);
        }
    }

    private static void addWhole(int kind, long whole, TreeSet<Long> all) {
        if (Language.has(kind, whole)) {
            all.add(whole);
        }
    }

    /** Bits that are those of no value of the kind. */
    static long[] none(int kind) {
        switch (kind) {
            case 0:
                return new long[] {2, -1, 256, 1L << 32, Long.MIN_VALUE, Long.MAX_VALUE};
            case 1:
                return new long[] {128, -129, 255, 256, 1L << 32, Long.MIN_VALUE, Long.MAX_VALUE};
            case 2:
                return new long[] {32768, -32769, 65535, 65536, 1L << 32, Long.MIN_VALUE, Long.MAX_VALUE};
            case 3:
                return new long[] {-1, 65536, -32768, 1L << 32, Long.MIN_VALUE, Long.MAX_VALUE};
            case 4:
                return new long[] {1L << 31, -(1L << 31) - 1, 4294967295L, 1L << 32, Long.MIN_VALUE, Long.MAX_VALUE};
            case 5:
                return new long[] {};
            case 6:
                return new long[] {-1, 0x7f800001L, 0x7fc00000L, 0x7fffffffL, 0xff800001L, 0xffc00000L, 0xffffffffL,
                    1L << 32, (1L << 32) + 0x3f800000L, -0x80000000L, Long.MIN_VALUE, Long.MAX_VALUE};
            case 7:
                return new long[] {-1, 0x7ff0000000000001L, 0x7ff8000000000000L, Long.MAX_VALUE, 0xfff0000000000001L,
                    0xfff8000000000000L};
            default:
                return new long[] {0, 1, -1};
        }
    }

    /** Bits of some value of the kind; reals are often small in size, often near one another. */
    static long drawn(int kind, Random random) {
        long bits = random.nextLong();
        if (kind < 6) {
            long whole = bits >> random.nextInt(64);
            return kind == 0 ? bits & 1 : Language.cast(5, kind, whole);
        }
        int way = random.nextInt(4);
        if (way == 0) {
            return Language.ofDouble(kind, (double) (bits >> random.nextInt(64)));
        }
        if (way == 1) {
            return Language.ofDouble(kind, random.nextInt(4096) / 64.0 - 32);
        }
        return drawnReal(kind, bits, way == 2 ? 40 : 2500, random);
    }

    private static long drawnReal(int kind, long bits, int spread, Random random) {
        int greatest = kind == 6 ? 254 : 2046;
        int middle = kind == 6 ? 127 : 1023;
        long field = Math.max(0, Math.min(greatest, middle + random.nextInt(spread) - spread / 2));
        long mask = random.nextBoolean() ? -1L : -1L << random.nextInt(52);
        if (kind == 6) {
            return (bits & mask & 0x7fffffL) | (field << 23) | (bits >>> 63 << 31);
        }
        return (bits & mask & 0xfffffffffffffL) | (field << 52) | (bits >>> 63 << 63);
    }
}
