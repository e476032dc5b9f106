/** Counts and prints the calls whose answer is not the one that is due. */
final class Due {
    private static final int MOST_PRINTED = 30;
    private static int calls = 0;
    private static int wrong = 0;

    private Due() {
    }

    static void same(String call, long got, long want) {
        calls++;
        if (got == want) {
            return;
        }
        wrong++;
        if (wrong <= MOST_PRINTED) {
            System.out.println(call + " answered " + got + ", due is " + want);
        }
    }

    static void same(String call, boolean got, boolean want) {
        same(call, got ? 1 : 0, want ? 1 : 0);
    }

    static void end() {
        System.out.println(wrong + " of " + calls + " answers are not as due");
        if (wrong != 0 || calls == 0) {
            System.exit(1);
        }
    }
}
