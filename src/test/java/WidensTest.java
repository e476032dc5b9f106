/** Promise 3: a kind is the other one, or one of the nineteen pairs. */
public final class WidensTest {
    /** Row from, column to. */
    private static final String[] WIDENS = {
        "1.......",
        ".11.1111",
        "..1.1111",
        "...11111",
        "....1111",
        ".....111",
        "......11",
        ".......1",
    };

    public static void main(String[] args) {
        int pairs = 0;
        for (int from = 0; from <= 7; from++) {
            for (int to = 0; to <= 7; to++) {
                boolean want = WIDENS[from].charAt(to) == '1';
                check(from, to, want);
                pairs += want && from != to ? 1 : 0;
            }
        }
        Due.same("pairs of this test's table", pairs, 19);
        for (int none : Samples.NO_KINDS) {
            for (int kind = 0; kind <= 7; kind++) {
                check(none, kind, false);
                check(kind, none, false);
            }
            for (int other : Samples.NO_KINDS) {
                check(none, other, false);
            }
        }
        Due.end();
    }

    private static void check(int from, int to, boolean want) {
        Due.same("widens(" + from + ", " + to + ")", new KindNumbers().widens(from, to), want);
    }
}
