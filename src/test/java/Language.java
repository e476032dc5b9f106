/** The answers that are due, got from the language itself. */
final class Language {
    private Language() {
    }

    static long ofFloat(float value) {
        return Float.floatToRawIntBits(value) & 0xffffffffL;
    }

    static float toFloat(long bits) {
        return Float.intBitsToFloat((int) bits);
    }

    static long ofDouble(int kind, double value) {
        return kind == 6 ? ofFloat((float) value) : Double.doubleToRawLongBits(value);
    }

    static boolean has(int kind, long bits) {
        switch (kind) {
            case 0: return bits >= 0 && bits <= 1;
            case 1: return bits >= Byte.MIN_VALUE && bits <= Byte.MAX_VALUE;
            case 2: return bits >= Short.MIN_VALUE && bits <= Short.MAX_VALUE;
            case 3: return bits >= 0 && bits <= 65535;
            case 4: return bits >= Integer.MIN_VALUE && bits <= Integer.MAX_VALUE;
            case 5: return true;
            case 6: return bits >= 0 && bits <= 0xffffffffL && !Float.isNaN(toFloat(bits));
            case 7: return !Double.isNaN(Double.longBitsToDouble(bits));
            default: return false;
        }
    }

    static long cast(int from, int to, long bits) {
        if (from == 6) {
            return ofFloatTo(to, toFloat(bits));
        }
        if (from == 7) {
            return ofDoubleTo(to, Double.longBitsToDouble(bits));
        }
        switch (to) {
            case 1: return (byte) bits;
            case 2: return (short) bits;
            case 3: return (char) bits;
            case 4: return (int) bits;
            case 6: return ofFloat((float) bits);
            case 7: return Double.doubleToRawLongBits((double) bits);
            default: return bits;
        }
    }

    private static long ofFloatTo(int to, float value) {
        switch (to) {
            case 1: return (byte) value;
            case 2: return (short) value;
            case 3: return (char) value;
            case 4: return (int) value;
            case 5: return (long) value;
            case 6: return ofFloat(value);
            default: return Double.doubleToRawLongBits((double) value);
        }
    }

    private static long ofDoubleTo(int to, double value) {
        switch (to) {
            case 1: return (byte) value;
            case 2: return (short) value;
            case 3: return (char) value;
            case 4: return (int) value;
            case 5: return (long) value;
            case 6: return ofFloat((float) value);
            default: return Double.doubleToRawLongBits(value);
        }
    }

    static int workKind(int kind, int other) {
        return Math.max(4, Math.max(kind, other));
    }

    /** What work() fails with: 0, or 8 where there is no number. */
    static int workFails(int what, int kind, long a, int other, long b) {
        int in = workKind(kind, other);
        if (in <= 5) {
            return what >= 4 && b == 0 ? 8 : 0;
        }
        return has(in, rawWork(what, in, cast(kind, in, a), cast(other, in, b))) ? 0 : 8;
    }

    static long work(int what, int kind, long a, int other, long b) {
        int in = workKind(kind, other);
        if (workFails(what, kind, a, other, b) != 0) {
            return 0;
        }
        return rawWork(what, in, cast(kind, in, a), cast(other, in, b));
    }

    private static long rawWork(int what, int in, long a, long b) {
        switch (in) {
            case 4: return workInt(what, (int) a, (int) b);
            case 5: return workLong(what, a, b);
            case 6: return ofFloat(workFloat(what, toFloat(a), toFloat(b)));
            default: return Double.doubleToRawLongBits(
                workDouble(what, Double.longBitsToDouble(a), Double.longBitsToDouble(b)));
        }
    }

    private static int workInt(int what, int a, int b) {
        switch (what) {
            case 1: return a + b;
            case 2: return a - b;
            case 3: return a * b;
            case 4: return a / b;
            default: return a % b;
        }
    }

    private static long workLong(int what, long a, long b) {
        switch (what) {
            case 1: return a + b;
            case 2: return a - b;
            case 3: return a * b;
            case 4: return a / b;
            default: return a % b;
        }
    }

    private static float workFloat(int what, float a, float b) {
        switch (what) {
            case 1: return a + b;
            case 2: return a - b;
            case 3: return a * b;
            case 4: return a / b;
            default: return a % b;
        }
    }

    private static double workDouble(int what, double a, double b) {
        switch (what) {
            case 1: return a + b;
            case 2: return a - b;
            case 3: return a * b;
            case 4: return a / b;
            default: return a % b;
        }
    }

    static long shift(int what, int kind, long a, long n) {
        if (kind == 5) {
            return what == 6 ? a << n : what == 7 ? a >> n : a >>> n;
        }
        int value = (int) a;
        return what == 6 ? value << n : what == 7 ? value >> n : value >>> n;
    }

    static int compare(int kind, long a, int other, long b) {
        int in = workKind(kind, other);
        long first = cast(kind, in, a);
        long second = cast(other, in, b);
        if (in == 6) {
            return side(toFloat(first) < toFloat(second), toFloat(first) > toFloat(second));
        }
        if (in == 7) {
            double x = Double.longBitsToDouble(first);
            double y = Double.longBitsToDouble(second);
            return side(x < y, x > y);
        }
        return side(first < second, first > second);
    }

    static int order(int kind, long a, long b) {
        if (kind == 6) {
            return Float.compare(toFloat(a), toFloat(b));
        }
        if (kind == 7) {
            return Double.compare(Double.longBitsToDouble(a), Double.longBitsToDouble(b));
        }
        return Long.compare(a, b);
    }

    private static int side(boolean less, boolean greater) {
        return less ? -1 : greater ? 1 : 0;
    }
}
