/** The document's terms KINDS and BITS: each sentence that names a boundary, by calls written out. */
public final class KindsAndBitsTest {
    private static final long LOW_32 = 1L << 32;

    public static void main(String[] args) {
        checkBoolean();
        checkWholeNumbers();
        checkChar();
        checkFloat();
        checkDouble();
        checkNotANumber();
        checkNotANumberIsRefused();
        checkBooleanStaysAlone();
        Due.end();
    }

    private static void checkBoolean() {
        Sentence sentence = new Sentence("of a boolean 0 or 1");
        sentence.has(0, 0, true);
        sentence.has(0, 1, true);
        sentence.has(0, 2, false);
        sentence.has(0, -1, false);
        sentence.has(0, LOW_32, false);
        sentence.has(0, LOW_32 + 1, false);
        sentence.castRefused(0, 0, 2);
        sentence.orderRefused(0, 1, 2);
    }

    private static void checkWholeNumbers() {
        Sentence sentence = new Sentence("of a byte, short, int, long the number");
        checkEnds(sentence, 1, -128, 127);
        sentence.has(1, 255, false);
        checkEnds(sentence, 2, -32768, 32767);
        sentence.has(2, 65535, false);
        checkEnds(sentence, 4, -2147483648L, 2147483647L);
        sentence.has(4, 4294967295L, false);
        sentence.has(5, Long.MIN_VALUE, true);
        sentence.has(5, -1, true);
        sentence.has(5, Long.MAX_VALUE, true);
    }

    private static void checkChar() {
        Sentence sentence = new Sentence("of a char 0 to 65535");
        checkEnds(sentence, 3, 0, 65535);
    }

    private static void checkEnds(Sentence sentence, int kind, long least, long greatest) {
        sentence.has(kind, least, true);
        sentence.has(kind, least - 1, false);
        sentence.has(kind, greatest, true);
        sentence.has(kind, greatest + 1, false);
        sentence.has(kind, LOW_32 + 1, false);
        sentence.has(kind, -LOW_32, false);
        sentence.has(kind, Long.MIN_VALUE, false);
        sentence.has(kind, Long.MAX_VALUE, false);
    }

    private static void checkFloat() {
        Sentence sentence = new Sentence("of a float its 32 bits without sign");
        sentence.has(6, 0, true);
        sentence.has(6, 1, true);
        sentence.has(6, 0x7f7fffffL, true);
        sentence.has(6, 0x80000000L, true);
        sentence.has(6, 0xff7fffffL, true);
        // The same bits as an int with its sign.
        sentence.has(6, (int) 0x80000000L, false);
        sentence.has(6, (int) 0xff7fffffL, false);
        sentence.has(6, (int) 0xff800000L, false);
        sentence.has(6, LOW_32, false);
        sentence.has(6, LOW_32 + 0x3f800000L, false);
        sentence.has(6, Long.MIN_VALUE, false);
        sentence.has(6, Long.MIN_VALUE + 0x3f800000L, false);
        sentence.cast(5, 6, -1, 0xbf800000L);
        sentence.work(3, 6, 0x3f800000L, 4, -1, 0xbf800000L);
    }

    private static void checkDouble() {
        Sentence sentence = new Sentence("of a double its 64 bits");
        sentence.has(7, 0, true);
        sentence.has(7, 1, true);
        sentence.has(7, 0x7fefffffffffffffL, true);
        sentence.has(7, 0x8000000000000000L, true);
        sentence.has(7, 0xffefffffffffffffL, true);
        sentence.cast(5, 7, -1, 0xbff0000000000000L);
    }

    private static void checkNotANumber() {
        Sentence sentence = new Sentence("No bits are those of a not-a-number");
        sentence.has(6, 0x7f800000L, true);
        sentence.has(6, 0xff800000L, true);
        sentence.has(7, 0x7ff0000000000000L, true);
        sentence.has(7, 0xfff0000000000000L, true);
        long[] noFloats = {0x7f800001L, 0x7fc00000L, 0x7fffffffL, 0xff800001L, 0xffc00000L, 0xffffffffL};
        for (long bits : noFloats) {
            sentence.has(6, bits, false);
        }
        long[] noDoubles = {0x7ff0000000000001L, 0x7ff8000000000000L, 0x7fffffffffffffffL,
            0xfff0000000000001L, 0xfff8000000000000L, 0xffffffffffffffffL};
        for (long bits : noDoubles) {
            sentence.has(7, bits, false);
        }
    }

    private static void checkNotANumberIsRefused() {
        Sentence sentence = new Sentence("No bits are those of a not-a-number");
        long[] none = {0x7f800001L, 0x7ff0000000000001L};
        for (int kind = 6; kind <= 7; kind++) {
            long bits = none[kind - 6];
            sentence.castRefused(kind, kind, bits);
            sentence.castRefused(kind, 4, bits);
            sentence.castRefused(kind, 13 - kind, bits);
            sentence.workRefused(1, kind, bits, kind, 0);
            sentence.workRefused(1, kind, 0, kind, bits);
            sentence.compareRefused(kind, bits, kind, bits);
            sentence.compareRefused(4, 0, kind, bits);
            sentence.orderRefused(kind, bits, bits);
            sentence.orderRefused(kind, 0, bits);
        }
    }

    private static void checkBooleanStaysAlone() {
        Sentence sentence = new Sentence("A boolean has no other kind to go to, and none comes to it");
        for (int kind = 1; kind <= 7; kind++) {
            sentence.widens(0, kind, false);
            sentence.widens(kind, 0, false);
            for (long bits = 0; bits <= 1; bits++) {
                sentence.castRefused(0, kind, bits);
                sentence.castRefused(kind, 0, bits);
            }
        }
        sentence.widens(0, 0, true);
        sentence.cast(0, 0, 0, 0);
        sentence.cast(0, 0, 1, 1);
    }
}
