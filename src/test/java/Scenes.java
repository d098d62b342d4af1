import java.util.ArrayList;
import java.util.List;

/** Beginnings that several tests share, and looks at all that an object tells. */
final class Scenes {
    private Scenes() {
    }

    static int deliverAll(StreamWires x, int side) {
        int frames = 0;
        while (x.side(side, 4) > 0) {
            x.deliver(side);
            frames++;
        }
        return frames;
    }

    /** Both sides send and all comes, until both have nothing more to send. */
    static void settle(StreamWires x) {
        int moved = 1;
        while (moved > 0) {
            moved = 0;
            for (int side = 0; side < 2; side++) {
                moved += x.drain(side, 1000);
                deliverAll(x, side);
            }
        }
    }

    static void sendWords(StreamWires x, int side, int stream, int... words) {
        for (int word : words) {
            x.send(side, stream, word);
        }
    }

    /** Stream 0 was opened by side 0 with number 0, and that is known at both sides; no frame is out or on a wire. */
    static StreamWires open(int streams, int most, int window, int cells, int wire) {
        StreamWires x = new StreamWires(streams, most, window, cells, wire);
        x.open(0, 0);
        settle(x);
        return x;
    }

    /**
     * Three streams, m 4, W 3, R 10: stream 0 is open at both sides, and data of as many words (1, 2, ..) is the only
     * frame on the wire from side 0, with number 1, which side 1 waits for.
     */
    static StreamWires data(int words) {
        StreamWires x = open(3, 4, 3, 60, 9);
        for (int i = 1; i <= words; i++) {
            x.send(0, 0, i);
        }
        x.pump(0);
        return x;
    }

    /** The same object with an opening (of stream 1) on the wire from side 0 in the data's place: a frame of two words. */
    static StreamWires opening() {
        StreamWires x = open(3, 4, 3, 60, 9);
        x.open(0, 1);
        x.pump(0);
        return x;
    }

    /**
     * The same object; side 0 has sent three words, of which two were taken, and the grant of two is the only frame on
     * the wire from side 1, with number 0, which side 0 waits for. Side 0 has 7 of credit, and 1 frame (number 1) out.
     */
    static StreamWires grant() {
        StreamWires x = data(3);
        x.deliver(0);
        x.receive(1, 0);
        x.receive(1, 0);
        x.pump(1);
        return x;
    }

    /** All that the calls tell of an object, of its streams and of the frames on its wires. */
    static int[] look(StreamWires x, int streams) {
        List<Integer> told = new ArrayList<>();
        for (int side = 0; side < 2; side++) {
            told.add(x.word(side));
            for (int what = 0; what <= 11; what++) {
                told.add(x.side(side, what));
            }
            for (int stream = 0; stream < streams; stream++) {
                for (int what = 0; what <= 9; what++) {
                    told.add(x.stream(side, stream, what));
                }
            }
            for (int i = 0; i < x.side(side, 4); i++) {
                for (int k = 0; k < wordsOf(x.wire(side, i, 0)); k++) {
                    told.add(x.wire(side, i, k));
                }
            }
        }
        return told.stream().mapToInt(Integer::intValue).toArray();
    }

    private static int wordsOf(int head) {
        return switch (head & 7) {
            case Craft.DATA -> 3 + (head >>> 24);
            case Craft.GRANT -> 3;
            default -> 2;
        };
    }
}
