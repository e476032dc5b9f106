/** Promise 1: nothing has failed on a new object, whatever has failed on another. */
public final class NewObjectTest {
    public static void main(String[] args) {
        Due.same("new, failed()", new KindNumbers().failed(), 0);
        KindNumbers bad = new KindNumbers();
        bad.work(4, 4, 1, 4, 0);
        Due.same("failed() after a division by 0", bad.failed(), 8);
        Due.same("failed() of the next new object", new KindNumbers().failed(), 0);
        Due.same("failed() of the first object still", bad.failed(), 8);
        KindNumbers asked = new KindNumbers();
        asked.has(9, 0);
        asked.widens(9, 9);
        Due.same("failed() after has() and widens() alone", asked.failed(), 0);
        Due.end();
    }
}
