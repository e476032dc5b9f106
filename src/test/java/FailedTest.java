/** Promise 9: failed() tells of the latest of the five calls, and of no other. */
public final class FailedTest {
    private static final int CALLS = 6;

    public static void main(String[] args) {
        for (int before = 0; before < CALLS; before++) {
            for (int after = 0; after < CALLS; after++) {
                checkPair(before, after);
            }
        }
        checkOthersLeaveIt();
        checkLongRun();
        Due.end();
    }

    private static void checkPair(int before, int after) {
        KindNumbers numbers = new KindNumbers();
        String pair = "calls " + before + " and " + after + ": ";
        fail(before, numbers);
        Due.same(pair + "failed() after the first failed", numbers.failed(), before == 5 ? 8 : 1);
        succeed(after, numbers);
        Due.same(pair + "failed() after the second did not", numbers.failed(), 0);
        fail(after, numbers);
        Due.same(pair + "failed() after the second failed", numbers.failed(), after == 5 ? 8 : 1);
        fail(before, numbers);
        Due.same(pair + "failed() after the first failed again", numbers.failed(), before == 5 ? 8 : 1);
    }

    private static void fail(int call, KindNumbers numbers) {
        switch (call) {
            case 0: numbers.cast(0, 1, 1); break;
            case 1: numbers.work(9, 4, 1, 4, 1); break;
            case 2: numbers.shift(9, 4, 1, 1); break;
            case 3: numbers.compare(0, 1, 4, 1); break;
            case 4: numbers.order(8, 1, 1); break;
            default: numbers.work(4, 6, 0, 6, 0); break;
        }
    }

    private static void succeed(int call, KindNumbers numbers) {
        switch (call) {
            case 0: numbers.cast(4, 1, 1); break;
            case 1: numbers.work(1, 4, 1, 4, 1); break;
            case 2: numbers.shift(6, 4, 1, 1); break;
            case 3: numbers.compare(4, 1, 4, 1); break;
            case 4: numbers.order(0, 1, 1); break;
            default: numbers.work(4, 6, 0, 6, 0x3f800000L); break;
        }
    }

    private static void checkOthersLeaveIt() {
        KindNumbers numbers = new KindNumbers();
        numbers.work(5, 4, 1, 4, 0);
        numbers.has(4, 1);
        numbers.has(9, 1);
        numbers.widens(1, 2);
        numbers.widens(9, 9);
        Due.same("failed() after has() and widens()", numbers.failed(), 8);
        Due.same("failed() again", numbers.failed(), 8);
        numbers.work(1, 4, 1, 4, 1);
        numbers.has(9, 1);
        numbers.widens(9, 9);
        Due.same("failed() after has() and widens() of no kind", numbers.failed(), 0);
    }

    private static void checkLongRun() {
        KindNumbers numbers = new KindNumbers();
        for (int i = 0; i < 128; i++) {
            numbers.work(4, 4, 1, 4, 0);
            Due.same("run, failed() after a failure " + i, numbers.failed(), 8);
            Due.same("run, work " + i, numbers.work(1, 4, i, 4, 1), i + 1);
            Due.same("run, failed() after an answer " + i, numbers.failed(), 0);
        }
    }
}
