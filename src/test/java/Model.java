import java.util.ArrayList;
import java.util.Arrays;
import java.util.LinkedList;
import java.util.List;

/**
 * The document once more, written with the Java library and in another way than the class: frames are counted without
 * end and their numbers made from that, and a frame's contents are read from fields. ModelTest compares the two.
 */
final class Model {
    private static final int BAD = -1;

    /** A null word is a mark. */
    private static final class Stream {
        String how = "NEW";
        boolean shut;
        boolean opening;
        boolean end;
        boolean openingCame;
        int credit;
        int due;
        int weight = 1;
        final LinkedList<Integer> toSend = new LinkedList<>();
        final LinkedList<Integer> lying = new LinkedList<>();
        int words;
        int marks;
    }

    private static final class Side {
        final List<Stream> streams = new ArrayList<>();
        final LinkedList<int[]> wire = new LinkedList<>();
        final List<int[]> everNumbered = new ArrayList<>();
        int known;
        int takenSoFar;
        int turn;
        int left = 1;
        boolean ack;
        int word;
        int sent;
        int spoilt;
        int late;
    }

    private final int most;
    private final int window;
    private final int cells;
    private final int room;
    private final int kept;
    private final Side[] sides = {new Side(), new Side()};

    Model(int streams, int most, int window, int cells, int wire) {
        int s = Math.min(8, Math.max(1, streams));
        this.most = Math.min(16, Math.max(1, most));
        this.window = Math.min(15, Math.max(1, window));
        this.cells = Math.min(400, Math.max(4, cells));
        this.room = Math.min(20, Math.max(1, wire));
        this.kept = Math.max(1, this.cells / (2 * s));
        for (Side side : sides) {
            for (int i = 0; i < s; i++) {
                side.streams.add(new Stream());
            }
        }
    }

    private boolean no(int side) {
        return side != 0 && side != 1;
    }

    private boolean no(int side, int stream) {
        return no(side) || stream < 0 || stream >= sides[side].streams.size();
    }

    int open(int side, int stream) {
        if (no(side, stream)) {
            return BAD;
        }
        Stream t = sides[side].streams.get(stream);
        if (!t.how.equals("NEW")) {
            return 0;
        }
        t.how = "OPEN";
        t.credit = kept;
        t.opening = true;
        return 1;
    }

    int send(int side, int stream, int word) {
        return add(side, stream, word);
    }

    int mark(int side, int stream) {
        return add(side, stream, null);
    }

    private int add(int side, int stream, Integer item) {
        if (no(side, stream)) {
            return BAD;
        }
        Stream t = sides[side].streams.get(stream);
        if (!t.how.equals("OPEN")) {
            return 0;
        }
        if (free(sides[side]) == 0) {
            return 2;
        }
        t.toSend.addLast(item);
        return 1;
    }

    private int free(Side here) {
        int free = cells;
        for (Stream t : here.streams) {
            free -= t.toSend.size() + (t.how.equals("NEW") ? 0 : kept);
        }
        for (int[] frame : out(here)) {
            if (frame[0] % 8 == 1) {
                free -= frame.length - 3;
            }
        }
        return Math.max(free, 0);
    }

    private List<int[]> out(Side here) {
        return here.everNumbered.subList(here.known, here.everNumbered.size());
    }

    int close(int side, int stream) {
        if (no(side, stream)) {
            return BAD;
        }
        Stream t = sides[side].streams.get(stream);
        if (!t.how.equals("OPEN")) {
            return 0;
        }
        t.how = "ENDING";
        t.end = true;
        return 1;
    }

    int receive(int side, int stream) {
        if (no(side, stream)) {
            return BAD;
        }
        Stream t = sides[side].streams.get(stream);
        if (t.how.equals("NEW")) {
            return 0;
        }
        if (t.lying.isEmpty()) {
            return t.shut ? 4 : 3;
        }
        Integer item = t.lying.removeFirst();
        t.due++;
        if (item == null) {
            t.marks++;
            return 2;
        }
        t.words++;
        sides[side].word = item;
        return 1;
    }

    int word(int side) {
        return no(side) ? 0 : sides[side].word;
    }

    int weight(int side, int stream, int w) {
        if (no(side, stream) || w < 1 || w > 4) {
            return BAD;
        }
        Stream t = sides[side].streams.get(stream);
        int was = t.weight;
        t.weight = w;
        return was;
    }

    int pump(int side) {
        if (no(side)) {
            return BAD;
        }
        Side here = sides[side];
        if (here.wire.size() >= room) {
            return 0;
        }
        if (out(here).size() < window) {
            int stream = grant(here);
            if (stream < 0) {
                stream = turn(here);
            }
            if (stream >= 0) {
                return stream + 1;
            }
        }
        if (!here.ack) {
            return 0;
        }
        put(here, Craft.sealed(Craft.head(0, 0, 0, wanted(here), 0)));
        return 50;
    }

    private int wanted(Side here) {
        return here.takenSoFar % (window + 1);
    }

    private void put(Side here, int[] frame) {
        here.wire.addLast(frame.clone());
        here.ack = false;
        here.sent++;
    }

    private void putNumbered(Side here, int kind, int stream, int count, int... rest) {
        int[] words = new int[rest.length + 1];
        words[0] = Craft.head(kind, stream, here.everNumbered.size() % (window + 1), wanted(here), count);
        System.arraycopy(rest, 0, words, 1, rest.length);
        int[] frame = Craft.sealed(words);
        here.everNumbered.add(frame);
        put(here, frame);
    }

    private int grant(Side here) {
        for (Stream t : here.streams) {
            if (t.due > 0) {
                int stream = here.streams.indexOf(t);
                putNumbered(here, 2, stream, 0, t.due);
                t.due = 0;
                return stream;
            }
        }
        return -1;
    }

    private int turn(Side here) {
        int s = here.streams.size();
        for (int step = 0; step < s; step++) {
            int stream = (here.turn + step) % s;
            if (sendOne(here, stream, here.streams.get(stream))) {
                int left = step == 0 ? here.left : here.streams.get(stream).weight;
                here.turn = left == 1 ? (stream + 1) % s : stream;
                here.left = left == 1 ? here.streams.get(here.turn).weight : left - 1;
                return stream;
            }
        }
        return -1;
    }

    private boolean sendOne(Side here, int stream, Stream t) {
        if (t.opening) {
            t.opening = false;
            putNumbered(here, 3, stream, 0);
            return true;
        }
        if (t.toSend.isEmpty()) {
            if (t.end) {
                t.end = false;
                putNumbered(here, 4, stream, 0);
                return true;
            }
            return false;
        }
        if (t.credit == 0) {
            return false;
        }
        int count = Math.min(Math.min(most, t.credit), t.toSend.size());
        int[] rest = new int[count + 1];
        for (int i = 0; i < count; i++) {
            Integer item = t.toSend.removeFirst();
            if (item == null) {
                rest[0] += 1 << i;
            } else {
                rest[i + 1] = item;
            }
        }
        t.credit -= count;
        putNumbered(here, 1, stream, count, rest);
        return true;
    }

    int drain(int side, int n) {
        if (no(side) || n < 0 || n > 1000) {
            return BAD;
        }
        for (int i = 0; i < n; i++) {
            if (pump(side) == 0) {
                return i;
            }
        }
        return n;
    }

    int deliver(int side) {
        if (no(side)) {
            return BAD;
        }
        if (sides[side].wire.isEmpty()) {
            return 0;
        }
        Side here = sides[1 - side];
        int[] frame = sides[side].wire.removeFirst();
        int fate = fate(here, frame);
        if (fate == 1) {
            here.takenSoFar++;
            here.ack = true;
        } else if (fate == 2) {
            here.spoilt++;
        } else if (fate == 4) {
            here.late++;
            here.ack = true;
        }
        return fate;
    }

    private int fate(Side here, int[] frame) {
        int kind = frame[0] & 7;
        int stream = (frame[0] & 0xF8) / 8;
        int number = (frame[0] & 0xFF00) / 256;
        int wanted = (frame[0] & 0xFF0000) / 65536;
        int count = (frame[0] >> 24) & 255;
        if (!sound(here, frame, kind, count) || stream >= here.streams.size() || number > window || wanted > window) {
            return 2;
        }
        if (kind == 0 && (stream != 0 || number != 0)) {
            return 2;
        }
        for (int known = here.known; known <= here.everNumbered.size(); known++) {
            if (known % (window + 1) == wanted) {
                here.known = known;
                break;
            }
        }
        if (kind == 0) {
            return 3;
        }
        if (number != wanted(here)) {
            return 4;
        }
        return take(here.streams.get(stream), frame, kind, count) ? 1 : 2;
    }

    private boolean sound(Side here, int[] frame, int kind, int count) {
        int[] lengths = {2, 3 + count, 3, 2, 2};
        if (kind >= lengths.length || frame.length != lengths[kind]) {
            return false;
        }
        if (Craft.sum(Arrays.copyOf(frame, frame.length - 1)) != frame[frame.length - 1]) {
            return false;
        }
        if (kind != 1) {
            return count == 0 && (kind != 2 || frame[1] > 0);
        }
        if (count < 1 || count > most) {
            return false;
        }
        for (int bit = 0; bit < 32; bit++) {
            boolean mark = (frame[1] & 1 << bit) != 0;
            if (mark && (bit >= count || frame[2 + bit] != 0)) {
                return false;
            }
        }
        return true;
    }

    private boolean take(Stream t, int[] frame, int kind, int count) {
        boolean isNew = t.how.equals("NEW");
        if (kind == 3) {
            if (t.openingCame) {
                return false;
            }
            t.openingCame = true;
            if (isNew) {
                t.how = "OPEN";
                t.credit = kept;
            }
            return true;
        }
        if (isNew) {
            return false;
        }
        if (kind == 2) {
            if ((long) t.credit + frame[1] > kept) {
                return false;
            }
            t.credit += frame[1];
            return true;
        }
        if (t.shut) {
            return false;
        }
        if (kind == 4) {
            t.shut = true;
            return true;
        }
        if (t.lying.size() + t.due + count > kept) {
            return false;
        }
        for (int i = 0; i < count; i++) {
            t.lying.addLast((frame[1] & 1 << i) != 0 ? null : Integer.valueOf(frame[2 + i]));
        }
        return true;
    }

    boolean lose(int side) {
        return !no(side) && sides[side].wire.pollFirst() != null;
    }

    boolean corrupt(int side, int k, int mask) {
        if (no(side) || sides[side].wire.isEmpty() || mask == 0) {
            return false;
        }
        int[] frame = sides[side].wire.getFirst();
        if (k < 0 || k >= frame.length) {
            return false;
        }
        frame[k] = frame[k] & ~mask | ~frame[k] & mask;
        return true;
    }

    int timeout(int side) {
        if (no(side)) {
            return BAD;
        }
        Side here = sides[side];
        int frames = 0;
        for (int[] frame : out(here)) {
            if (here.wire.size() < room) {
                int[] words = Arrays.copyOf(frame, frame.length - 1);
                words[0] = words[0] & 0xFF00FFFF | wanted(here) << 16;
                put(here, Craft.sealed(words));
                frames++;
            }
        }
        return frames;
    }

    int wire(int side, int i, int k) {
        if (no(side) || i < 0 || i >= sides[side].wire.size()) {
            return 0;
        }
        int[] frame = sides[side].wire.get(i);
        return k < 0 || k >= frame.length ? 0 : frame[k];
    }

    int stream(int side, int stream, int what) {
        if (no(side, stream) || what < 0 || what > 9) {
            return BAD;
        }
        Stream t = sides[side].streams.get(stream);
        int[] told = {
            List.of("NEW", "OPEN", "ENDING").indexOf(t.how), t.shut ? 1 : 0, t.credit, t.due, t.toSend.size(),
            t.lying.size(), t.opening ? 1 : 0, t.end ? 1 : 0, t.words, t.marks};
        return told[what];
    }

    int side(int side, int what) {
        if (no(side) || what < 0 || what > 11) {
            return BAD;
        }
        Side here = sides[side];
        int[] told = {
            free(here), out(here).size(), here.known % (window + 1), wanted(here), here.wire.size(), here.turn, here.left,
            here.ack ? 1 : 0, here.sent, here.takenSoFar, here.spoilt, here.late};
        return told[what];
    }
}
