/** Two sides, a wire each way, and many streams of words over them. The document's promises say what each call does. */
public final class StreamWires {

    public static final int BAD = -1, NONE = -2;

    private static final int NEW = 0, OPEN = 1, ENDING = 2;

    private static final int ACK = 0, DATA = 1, GRANT = 2, OPENING = 3, END = 4;

    private static final int NO_FRAME = 0, TAKEN = 1, SPOILT = 2, ACK_CAME = 3, LATE = 4;

    private static final int ACK_SENT = 50, MOST_PUMPS = 1000, HEAVIEST = 4;

    private final Side zero;
    private final Side one;

    public StreamWires(int streams, int most, int window, int cells, int wire) {
        Limits limits = new Limits(streams, most, window, cells, wire);
        zero = new Side(limits);
        one = new Side(limits);
    }

    public int open(int side, int stream) {
        Flow flow = flowAt(side, stream);
        if (flow == null) {
            return BAD;
        }
        return flow.begin() ? 1 : 0;
    }

    public int send(int side, int stream, int word) {
        return putItem(side, stream, word, false);
    }

    public int mark(int side, int stream) {
        return putItem(side, stream, 0, true);
    }

    public int close(int side, int stream) {
        Flow flow = flowAt(side, stream);
        if (flow == null) {
            return BAD;
        }
        return flow.finish() ? 1 : 0;
    }

    public int receive(int side, int stream) {
        Side here = sideAt(side);
        Flow flow = flowAt(side, stream);
        if (here == null || flow == null) {
            return BAD;
        }
        return here.takeItem(flow);
    }

    public int word(int side) {
        Side here = sideAt(side);
        return here == null ? 0 : here.lastWord;
    }

    public int weight(int side, int stream, int w) {
        Flow flow = flowAt(side, stream);
        if (flow == null || w < 1 || w > HEAVIEST) {
            return BAD;
        }
        int before = flow.weight;
        flow.weight = w;
        return before;
    }

    public int pump(int side) {
        Side here = sideAt(side);
        return here == null ? BAD : here.sendNext();
    }

    public int drain(int side, int n) {
        Side here = sideAt(side);
        if (here == null || n < 0 || n > MOST_PUMPS) {
            return BAD;
        }
        int frames = 0;
        while (frames < n && here.sendNext() != 0) {
            frames++;
        }
        return frames;
    }

    public int deliver(int side) {
        Side from = sideAt(side);
        Side to = sideAt(1 - side);
        if (from == null || to == null) {
            return BAD;
        }
        Frame frame = from.line.frameAt(0);
        if (frame == null) {
            return NO_FRAME;
        }
        int fate = to.meet(frame);
        from.line.dropFirst();
        return fate;
    }

    public boolean lose(int side) {
        Side from = sideAt(side);
        return from != null && from.line.dropFirst();
    }

    public boolean corrupt(int side, int k, int mask) {
        Frame frame = frameAt(side, 0);
        return frame != null && mask != 0 && frame.flip(k, mask);
    }

    public int timeout(int side) {
        Side here = sideAt(side);
        return here == null ? BAD : here.sendAgain();
    }

    public int wire(int side, int i, int k) {
        Frame frame = frameAt(side, i);
        return frame == null ? 0 : frame.wordAt(k);
    }

    public int stream(int side, int stream, int what) {
        Flow flow = flowAt(side, stream);
        return flow == null ? BAD : flow.tell(what);
    }

    public int side(int side, int what) {
        Side here = sideAt(side);
        return here == null ? BAD : here.tell(what);
    }

    private Side sideAt(int side) {
        if (side == 0) {
            return zero;
        }
        return side == 1 ? one : null;
    }

    private Flow flowAt(int side, int stream) {
        Side here = sideAt(side);
        return here == null ? null : here.flowAt(stream);
    }

    private Frame frameAt(int side, int i) {
        Side from = sideAt(side);
        return from == null ? null : from.line.frameAt(i);
    }

    private int putItem(int side, int stream, int word, boolean mark) {
        Side here = sideAt(side);
        Flow flow = flowAt(side, stream);
        if (here == null || flow == null) {
            return BAD;
        }
        return here.queueItem(flow, word, mark);
    }

    private static int within(int value, int least, int most) {
        return Math.max(least, Math.min(most, value));
    }

    private static int bit(boolean told) {
        return told ? 1 : 0;
    }

    /** What the constructor was told, brought to what is allowed; both sides share it. */
    private static final class Limits {
        final int streams;
        final int most;
        final int window;
        final int cells;
        final int wireRoom;
        /** R of the document: the cells kept for what comes, and the credit of the other side at first. */
        final int kept;

        Limits(int streams, int most, int window, int cells, int wireRoom) {
            this.streams = within(streams, 1, 8);
            this.most = within(most, 1, 16);
            this.window = within(window, 1, 15);
            this.cells = within(cells, 4, 400);
            this.wireRoom = within(wireRoom, 1, 20);
            this.kept = Math.max(1, this.cells / (2 * this.streams));
        }

        int longestFrame() {
            return most + 3;
        }

        /** The number that lies so many steps (the window's at most) behind another, in their ring. */
        int numberBehind(int number, int steps) {
            int sum = number + steps;
            return sum > window ? sum - window - 1 : sum;
        }

        int stepsBetween(int from, int to) {
            return to >= from ? to - from : to - from + window + 1;
        }
    }

    /** The items of one side, in chains: made once, so that no later call makes anything. */
    private static final class Cells {
        static final int NO_CELL = -1;

        private final int[] words;
        private final boolean[] marks;
        private final int[] next;
        private int spare;

        Cells(int size) {
            int room = Math.max(1, size);
            words = new int[room];
            marks = new boolean[room];
            next = new int[room];
            for (int i = 0; i < room; i++) {
                next[i] = i + 1 < room ? i + 1 : NO_CELL;
            }
            spare = 0;
        }

        private boolean holds(int cell) {
            return cell >= 0 && cell < next.length;
        }

        int fill(int word, boolean mark) {
            int cell = spare;
            if (!holds(cell)) {
                return NO_CELL;
            }
            spare = next[cell];
            words[cell] = word;
            marks[cell] = mark;
            next[cell] = NO_CELL;
            return cell;
        }

        void chain(int cell, int behind) {
            if (holds(cell)) {
                next[cell] = behind;
            }
        }

        /** Gives a cell back and tells which one was chained behind it. */
        int giveBack(int cell) {
            if (!holds(cell)) {
                return NO_CELL;
            }
            int behind = next[cell];
            next[cell] = spare;
            spare = cell;
            return behind;
        }

        int wordIn(int cell) {
            return holds(cell) ? words[cell] : 0;
        }

        boolean isMark(int cell) {
            return holds(cell) && marks[cell];
        }
    }

    /** Items in the order in which they came. */
    private static final class Queue {
        private final Cells cells;
        private int oldest = Cells.NO_CELL;
        private int newest = Cells.NO_CELL;
        private int size;

        Queue(Cells cells) {
            this.cells = cells;
        }

        int size() {
            return size;
        }

        void put(int word, boolean mark) {
            int cell = cells.fill(word, mark);
            if (cell == Cells.NO_CELL) {
                return;
            }
            if (size == 0) {
                oldest = cell;
            } else {
                cells.chain(newest, cell);
            }
            newest = cell;
            size++;
        }

        int oldestWord() {
            return size > 0 ? cells.wordIn(oldest) : 0;
        }

        boolean oldestIsMark() {
            return size > 0 && cells.isMark(oldest);
        }

        void dropOldest() {
            if (size > 0) {
                oldest = cells.giveBack(oldest);
                size--;
            }
        }
    }

    /** The words of one frame. */
    private static final class Frame {
        private final int[] words;
        private int length;

        Frame(int longest) {
            words = new int[Math.max(0, longest)];
        }

        void begin(int head) {
            length = 0;
            put(head);
        }

        void put(int word) {
            if (length < words.length) {
                words[length] = word;
                length++;
            }
        }

        void copyFrom(Frame other) {
            length = Math.min(words.length, other.length);
            for (int k = 0; k < length; k++) {
                words[k] = other.words[k];
            }
        }

        int wordAt(int k) {
            return k >= 0 && k < length ? words[k] : 0;
        }

        boolean flip(int k, int mask) {
            if (k < 0 || k >= length) {
                return false;
            }
            words[k] ^= mask;
            return true;
        }

        void seal() {
            put(sumBefore(length));
        }

        /** Writes a new WANTED into a frame that was sealed before, which needs a new sum. */
        void renew(int wanted) {
            flip(0, (wanted() ^ wanted) << 16);
            length = Math.max(0, length - 1);
            seal();
        }

        int kind() {
            return wordAt(0) & 7;
        }

        int streamNumber() {
            return wordAt(0) >>> 3 & 31;
        }

        int number() {
            return wordAt(0) >>> 8 & 255;
        }

        int wanted() {
            return wordAt(0) >>> 16 & 255;
        }

        int count() {
            return wordAt(0) >>> 24;
        }

        boolean isMark(int item) {
            return (wordAt(1) >>> item & 1) == 1;
        }

        int itemWord(int item) {
            return wordAt(2 + item);
        }

        int granted() {
            return wordAt(1);
        }

        /** Whether it can have been sent by anyone, whatever the state of the side that it comes to. */
        boolean isSound(Limits limits) {
            return length == lengthTold()
                && wordAt(length - 1) == sumBefore(length - 1)
                && streamNumber() < limits.streams
                && number() <= limits.window
                && wanted() <= limits.window
                && isSoundForKind(limits);
        }

        private int lengthTold() {
            switch (kind()) {
                case DATA:
                    return 3 + count();
                case GRANT:
                    return 3;
                default:
                    return 2;
            }
        }

        private boolean isSoundForKind(Limits limits) {
            switch (kind()) {
                case ACK:
                    return streamNumber() == 0 && number() == 0 && count() == 0;
                case DATA:
                    return count() >= 1 && count() <= limits.most && areMarksSound();
                case GRANT:
                    return count() == 0 && granted() > 0;
                case OPENING:
                case END:
                    return count() == 0;
                default:
                    return false;
            }
        }

        private boolean areMarksSound() {
            if (wordAt(1) >>> count() != 0) {
                return false;
            }
            for (int i = 0; i < count(); i++) {
                if (isMark(i) && itemWord(i) != 0) {
                    return false;
                }
            }
            return true;
        }

        private int sumBefore(int end) {
            int a = 0;
            int b = 0;
            for (int k = 0; k < end; k++) {
                int word = wordAt(k);
                a = (a + (word >>> 16)) % 65535;
                b = (b + a) % 65535;
                a = (a + (word & 65535)) % 65535;
                b = (b + a) % 65535;
            }
            return b << 16 | a;
        }
    }

    /** Frames in the order in which they were sent. */
    private static final class Frames {
        private final Frame[] ring;
        private int first;
        private int size;

        Frames(int room, int longest) {
            ring = new Frame[Math.max(0, room)];
            for (int i = 0; i < ring.length; i++) {
                ring[i] = new Frame(longest);
            }
        }

        int size() {
            return size;
        }

        boolean hasRoom() {
            return size < ring.length;
        }

        Frame frameAt(int i) {
            return i >= 0 && i < size ? slotAt(i) : null;
        }

        void add(Frame frame) {
            Frame slot = hasRoom() ? slotAt(size) : null;
            if (slot != null) {
                slot.copyFrom(frame);
                size++;
            }
        }

        boolean dropFirst() {
            if (size == 0) {
                return false;
            }
            first = first + 1 < ring.length ? first + 1 : 0;
            size--;
            return true;
        }

        private Frame slotAt(int i) {
            int slot = first + i < ring.length ? first + i : first + i - ring.length;
            return slot >= 0 && slot < ring.length ? ring[slot] : null;
        }
    }

    /** A stream, as it is at one side. */
    private static final class Flow {
        final Queue toSend;
        final Queue lying;
        private final int kept;
        int state = NEW;
        int weight = 1;
        int credit;
        int due;
        boolean openingToSend;
        boolean endToSend;
        private boolean shut;
        private boolean openingCame;
        private int wordsTaken;
        private int marksTaken;

        Flow(Cells cells, int kept) {
            toSend = new Queue(cells);
            lying = new Queue(cells);
            this.kept = kept;
        }

        boolean begin() {
            if (state != NEW) {
                return false;
            }
            becomeOpen();
            openingToSend = true;
            return true;
        }

        boolean finish() {
            if (state != OPEN) {
                return false;
            }
            state = ENDING;
            endToSend = true;
            return true;
        }

        private void becomeOpen() {
            state = OPEN;
            credit = kept;
        }

        boolean hasToSend() {
            if (openingToSend) {
                return true;
            }
            return toSend.size() > 0 ? credit > 0 : endToSend;
        }

        boolean isShut() {
            return shut;
        }

        void dropTaken() {
            if (lying.oldestIsMark()) {
                marksTaken++;
            } else {
                wordsTaken++;
            }
            lying.dropOldest();
            due++;
        }

        boolean canTake(Frame frame) {
            switch (frame.kind()) {
                case DATA:
                    return canBeFilled() && frame.count() <= kept - lying.size() - due;
                case GRANT:
                    return state != NEW && frame.granted() <= kept - credit;
                case OPENING:
                    return !openingCame;
                case END:
                    return canBeFilled();
                default:
                    return false;
            }
        }

        private boolean canBeFilled() {
            return state != NEW && !shut;
        }

        void take(Frame frame) {
            switch (frame.kind()) {
                case DATA:
                    layDown(frame);
                    break;
                case GRANT:
                    credit += frame.granted();
                    break;
                case OPENING:
                    openingCame = true;
                    if (state == NEW) {
                        becomeOpen();
                    }
                    break;
                case END:
                    shut = true;
                    break;
                default:
                    break;
            }
        }

        private void layDown(Frame frame) {
            for (int i = 0; i < frame.count(); i++) {
                lying.put(frame.itemWord(i), frame.isMark(i));
            }
        }

        int tell(int what) {
            switch (what) {
                case 0:
                    return state;
                case 1:
                    return bit(shut);
                case 2:
                    return credit;
                case 3:
                    return due;
                case 4:
                    return toSend.size();
                case 5:
                    return lying.size();
                case 6:
                    return bit(openingToSend);
                case 7:
                    return bit(endToSend);
                case 8:
                    return wordsTaken;
                case 9:
                    return marksTaken;
                default:
                    return BAD;
            }
        }
    }

    /** One side, with the wire that goes out from it. */
    private static final class Side {
        private final Limits limits;
        private final Flow[] flows;
        private final Frames out;
        final Frames line;
        private final Frame draft;
        private int oldestOut;
        private int waitedFor;
        private int turn;
        private int turnLeft = 1;
        private boolean owesAck;
        int lastWord;
        private int sent;
        private int taken;
        private int spoilt;
        private int late;

        Side(Limits limits) {
            this.limits = limits;
            Cells cells = new Cells(limits.cells + limits.streams * limits.kept);
            flows = new Flow[limits.streams];
            for (int i = 0; i < flows.length; i++) {
                flows[i] = new Flow(cells, limits.kept);
            }
            out = new Frames(limits.window, limits.longestFrame());
            line = new Frames(limits.wireRoom, limits.longestFrame());
            draft = new Frame(limits.longestFrame());
        }

        Flow flowAt(int stream) {
            return stream >= 0 && stream < flows.length ? flows[stream] : null;
        }

        int queueItem(Flow flow, int word, boolean mark) {
            if (flow.state != OPEN) {
                return 0;
            }
            if (freeCells() == 0) {
                return 2;
            }
            flow.toSend.put(word, mark);
            return 1;
        }

        int takeItem(Flow flow) {
            if (flow.state == NEW) {
                return 0;
            }
            if (flow.lying.size() == 0) {
                return flow.isShut() ? 4 : 3;
            }
            boolean mark = flow.lying.oldestIsMark();
            if (!mark) {
                lastWord = flow.lying.oldestWord();
            }
            flow.dropTaken();
            return mark ? 2 : 1;
        }

        private int freeCells() {
            int free = limits.cells - itemsOut();
            for (Flow flow : flows) {
                free -= flow.toSend.size();
                if (flow.state != NEW) {
                    free -= limits.kept;
                }
            }
            return Math.max(0, free);
        }

        private int itemsOut() {
            int items = 0;
            for (int i = 0; i < out.size(); i++) {
                Frame frame = out.frameAt(i);
                // No other kind has a count, so that the kind need not be asked.
                items += frame == null ? 0 : frame.count();
            }
            return items;
        }

        int sendNext() {
            if (!line.hasRoom()) {
                return 0;
            }
            if (out.hasRoom()) {
                int granted = streamToGrant();
                if (granted != NONE) {
                    sendGrant(granted);
                    return 1 + granted;
                }
                int next = streamToSend();
                if (next != NONE) {
                    sendInTurn(next);
                    return 1 + next;
                }
            }
            if (!owesAck) {
                return 0;
            }
            sendAck();
            return ACK_SENT;
        }

        private int streamToGrant() {
            for (int i = 0; i < flows.length; i++) {
                if (flows[i].due > 0) {
                    return i;
                }
            }
            return NONE;
        }

        private int streamToSend() {
            int stream = turn;
            for (int i = 0; i < flows.length; i++) {
                Flow flow = flowAt(stream);
                if (flow != null && flow.hasToSend()) {
                    return stream;
                }
                stream = streamAfter(stream);
            }
            return NONE;
        }

        private void sendGrant(int stream) {
            Flow flow = flowAt(stream);
            if (flow == null) {
                return;
            }
            beginNumbered(GRANT, stream, 0);
            draft.put(flow.due);
            flow.due = 0;
            sendNumbered();
        }

        private void sendInTurn(int stream) {
            Flow flow = flowAt(stream);
            if (flow == null) {
                return;
            }
            if (stream != turn) {
                beginTurn(stream);
            }
            if (flow.openingToSend) {
                beginNumbered(OPENING, stream, 0);
                flow.openingToSend = false;
            } else if (flow.toSend.size() > 0) {
                draftData(flow, stream);
            } else {
                beginNumbered(END, stream, 0);
                flow.endToSend = false;
            }
            sendNumbered();
            countTurn();
        }

        private int streamAfter(int stream) {
            return stream + 1 < flows.length ? stream + 1 : 0;
        }

        private void beginTurn(int stream) {
            Flow flow = flowAt(stream);
            if (flow != null) {
                turn = stream;
                turnLeft = flow.weight;
            }
        }

        private void countTurn() {
            turnLeft--;
            if (turnLeft <= 0) {
                beginTurn(streamAfter(turn));
            }
        }

        private void draftData(Flow flow, int stream) {
            int count = Math.min(limits.most, Math.min(flow.toSend.size(), flow.credit));
            beginNumbered(DATA, stream, count);
            draft.put(0);
            for (int i = 0; i < count; i++) {
                if (flow.toSend.oldestIsMark()) {
                    draft.flip(1, 1 << i);
                }
                draft.put(flow.toSend.oldestWord());
                flow.toSend.dropOldest();
            }
            flow.credit -= count;
        }

        private void beginNumbered(int kind, int stream, int count) {
            int number = limits.numberBehind(oldestOut, out.size());
            draft.begin(kind | stream << 3 | number << 8 | waitedFor << 16 | count << 24);
        }

        private void sendNumbered() {
            draft.seal();
            out.add(draft);
            sendDraft();
        }

        private void sendAck() {
            draft.begin(ACK | waitedFor << 16);
            draft.seal();
            sendDraft();
        }

        private void sendDraft() {
            line.add(draft);
            owesAck = false;
            sent++;
        }

        int sendAgain() {
            int frames = 0;
            for (int i = 0; i < out.size() && line.hasRoom(); i++) {
                Frame frame = out.frameAt(i);
                if (frame != null) {
                    draft.copyFrom(frame);
                    draft.renew(waitedFor);
                    sendDraft();
                    frames++;
                }
            }
            return frames;
        }

        int meet(Frame frame) {
            if (!frame.isSound(limits)) {
                return refuse();
            }
            settleBefore(frame.wanted());
            if (frame.kind() == ACK) {
                return ACK_CAME;
            }
            if (frame.number() != waitedFor) {
                late++;
                owesAck = true;
                return LATE;
            }
            Flow flow = flowAt(frame.streamNumber());
            if (flow == null || !flow.canTake(frame)) {
                return refuse();
            }
            flow.take(frame);
            waitedFor = limits.numberBehind(waitedFor, 1);
            taken++;
            owesAck = true;
            return TAKEN;
        }

        private int refuse() {
            spoilt++;
            return SPOILT;
        }

        private void settleBefore(int wanted) {
            int come = limits.stepsBetween(oldestOut, wanted);
            if (come > out.size()) {
                return;
            }
            for (int i = 0; i < come; i++) {
                out.dropFirst();
            }
            oldestOut = wanted;
        }

        int tell(int what) {
            switch (what) {
                case 0:
                    return freeCells();
                case 1:
                    return out.size();
                case 2:
                    return oldestOut;
                case 3:
                    return waitedFor;
                case 4:
                    return line.size();
                case 5:
                    return turn;
                case 6:
                    return turnLeft;
                case 7:
                    return bit(owesAck);
                case 8:
                    return sent;
                case 9:
                    return taken;
                case 10:
                    return spoilt;
                case 11:
                    return late;
                default:
                    return BAD;
            }
        }
    }
}
