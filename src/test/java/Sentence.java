/**
 * One sentence of the document, with calls that hold it and their answers written out. Each call is made
 * on a new object, on one with failure 1 and on one with failure 8: what failed before must not matter.
 */
final class Sentence {
    private static final int[] BEFORE = {0, 1, 8};

    private final String words;

    Sentence(String words) {
        this.words = words;
    }

    void has(int kind, long bits, boolean want) {
        for (int before : BEFORE) {
            KindNumbers numbers = failedWith(before);
            String call = told("has", before, kind, bits);
            Due.same(call, numbers.has(kind, bits), want);
            Due.same(call + ", failed()", numbers.failed(), before);
        }
    }

    void widens(int from, int to, boolean want) {
        for (int before : BEFORE) {
            KindNumbers numbers = failedWith(before);
            String call = told("widens", before, from, to);
            Due.same(call, numbers.widens(from, to), want);
            Due.same(call + ", failed()", numbers.failed(), before);
        }
    }

    void cast(int from, int to, long bits, long want) {
        cast(from, to, bits, want, 0);
    }

    void castRefused(int from, int to, long bits) {
        cast(from, to, bits, 0, 1);
    }

    private void cast(int from, int to, long bits, long want, int why) {
        for (int before : BEFORE) {
            KindNumbers numbers = failedWith(before);
            String call = told("cast", before, from, to, bits);
            Due.same(call, numbers.cast(from, to, bits), want);
            Due.same(call + ", failed()", numbers.failed(), why);
        }
    }

    void work(int what, int kind, long a, int other, long b, long want) {
        work(what, kind, a, other, b, want, 0);
    }

    void workRefused(int what, int kind, long a, int other, long b) {
        work(what, kind, a, other, b, 0, 1);
    }

    void workWithoutAnswer(int what, int kind, long a, int other, long b) {
        work(what, kind, a, other, b, 0, 8);
    }

    private void work(int what, int kind, long a, int other, long b, long want, int why) {
        for (int before : BEFORE) {
            KindNumbers numbers = failedWith(before);
            String call = told("work", before, what, kind, a, other, b);
            Due.same(call, numbers.work(what, kind, a, other, b), want);
            Due.same(call + ", failed()", numbers.failed(), why);
        }
    }

    void shift(int what, int kind, long a, long n, long want) {
        shift(what, kind, a, n, want, 0);
    }

    void shiftRefused(int what, int kind, long a, long n) {
        shift(what, kind, a, n, 0, 1);
    }

    private void shift(int what, int kind, long a, long n, long want, int why) {
        for (int before : BEFORE) {
            KindNumbers numbers = failedWith(before);
            String call = told("shift", before, what, kind, a, n);
            Due.same(call, numbers.shift(what, kind, a, n), want);
            Due.same(call + ", failed()", numbers.failed(), why);
        }
    }

    void compare(int kind, long a, int other, long b, int want) {
        compare(kind, a, other, b, want, 0);
    }

    void compareRefused(int kind, long a, int other, long b) {
        compare(kind, a, other, b, 2, 1);
    }

    private void compare(int kind, long a, int other, long b, int want, int why) {
        for (int before : BEFORE) {
            KindNumbers numbers = failedWith(before);
            String call = told("compare", before, kind, a, other, b);
            Due.same(call, numbers.compare(kind, a, other, b), want);
            Due.same(call + ", failed()", numbers.failed(), why);
        }
    }

    void order(int kind, long a, long b, int want) {
        order(kind, a, b, want, 0);
    }

    void orderRefused(int kind, long a, long b) {
        order(kind, a, b, 2, 1);
    }

    private void order(int kind, long a, long b, int want, int why) {
        for (int before : BEFORE) {
            KindNumbers numbers = failedWith(before);
            String call = told("order", before, kind, a, b);
            Due.same(call, numbers.order(kind, a, b), want);
            Due.same(call + ", failed()", numbers.failed(), why);
        }
    }

    private static KindNumbers failedWith(int why) {
        KindNumbers numbers = new KindNumbers();
        if (why == 1) {
            numbers.cast(0, 1, 1);
        } else if (why == 8) {
            numbers.work(4, 4, 1, 4, 0);
        }
        return numbers;
    }

    private String told(String call, int before, long... arguments) {
        StringBuilder text = new StringBuilder("\"" + words + "\": " + call + "(");
        for (int i = 0; i < arguments.length; i++) {
            text.append(i == 0 ? "" : ", ").append(arguments[i]);
        }
        return text + ") with failed() " + before + " before";
    }
}
