import java.util.Arrays;

/** Makes the words of frames as the document tells them, and forges the oldest frame of a wire by corrupt(). */
final class Craft {
    static final int ACK = 0, DATA = 1, GRANT = 2, OPENING = 3, END = 4;

    private Craft() {
    }

    static int head(int kind, int stream, int number, int wanted, int count) {
        return kind + 8 * stream + 256 * number + 65536 * wanted + 16777216 * count;
    }

    static int sum(int... words) {
        long a = 0;
        long b = 0;
        for (int word : words) {
            long whole = word & 0xFFFFFFFFL;
            for (long half : new long[] {whole / 65536, whole % 65536}) {
                a = (a + half) % 65535;
                b = (b + a) % 65535;
            }
        }
        return (int) (65536 * b + a);
    }

    static int[] sealed(int... words) {
        int[] frame = Arrays.copyOf(words, words.length + 1);
        frame[words.length] = sum(words);
        return frame;
    }

    /** Turns the oldest frame of a wire into these words and their sum; it must have as many words. */
    static void forge(StreamWires x, int side, int... words) {
        forgeWhole(x, side, sealed(words));
    }

    /** Turns the oldest frame of a wire into these words, the last of which stands where the sum does. */
    static void forgeWhole(StreamWires x, int side, int... frame) {
        for (int k = 0; k < frame.length; k++) {
            int mask = x.wire(side, 0, k) ^ frame[k];
            if (mask != 0 && !x.corrupt(side, k, mask)) {
                throw new IllegalStateException("the oldest frame has no word " + k);
            }
        }
        if (x.corrupt(side, frame.length, 1)) {
            throw new IllegalStateException("the oldest frame has more words than " + frame.length);
        }
    }
}
