/** The edges that promises 2 to 10 name, call by call: a test for each of their sentences. */
public final class CallsEdgesTest {
    private static final Checks CHECKS = new Checks();
    private static final int BAD = StreamWires.BAD;
    private static final int[] NO_SIDES = {-1, 2, 3, Integer.MIN_VALUE, Integer.MAX_VALUE};
    private static final int[] NO_STREAMS = {-1, 2, 8, 31, Integer.MIN_VALUE, Integer.MAX_VALUE};

    public static void main(String[] args) {
        noSuchSide();
        noSuchStream();
        openOfANewOne();
        openOfOneThatIsNotNew();
        sendOfAWord();
        sendWithoutAFreeCell();
        sendNotOpen();
        markLikewise();
        closeOfAnOpenOne();
        closeNotOpen();
        receiveTheOldest();
        receiveMakesDue();
        receiveNone();
        receiveNoneAndShut();
        receiveOfANewOne();
        lastWord();
        noWordBefore();
        weightsWithinLimits();
        weightsBeyondLimits();
        pumpTellsTheStream();
        pumpTellsAnAck();
        pumpOfNothing();
        drainUpTo();
        drainUntilNothing();
        drainBeyondLimits();
        CHECKS.end();
    }

    /** Two streams, with items that lie, items that wait, and frames on both wires. */
    private static StreamWires lively() {
        StreamWires x = Scenes.open(2, 2, 4, 20, 3);
        Scenes.sendWords(x, 0, 0, 1, 2);
        x.mark(0, 0);
        Scenes.settle(x);
        x.receive(1, 0);
        x.send(1, 0, 3);
        x.pump(1);
        x.send(0, 0, 4);
        x.pump(0);
        x.open(0, 1);
        return x;
    }

    private static void dueBadOfSide(StreamWires x, int side) {
        String of = " of side " + side;
        CHECKS.due("open" + of, x.open(side, 0), BAD);
        CHECKS.due("send" + of, x.send(side, 0, 1), BAD);
        CHECKS.due("mark" + of, x.mark(side, 0), BAD);
        CHECKS.due("close" + of, x.close(side, 0), BAD);
        CHECKS.due("receive" + of, x.receive(side, 0), BAD);
        CHECKS.due("word" + of + " (here 0)", x.word(side), 0);
        CHECKS.due("weight" + of, x.weight(side, 0, 2), BAD);
        CHECKS.due("pump" + of, x.pump(side), BAD);
        CHECKS.due("drain" + of, x.drain(side, 1), BAD);
        CHECKS.due("drain of none" + of, x.drain(side, 0), BAD);
        CHECKS.due("deliver" + of, x.deliver(side), BAD);
        CHECKS.due("lose" + of, x.lose(side), false);
        CHECKS.due("corrupt" + of, x.corrupt(side, 0, 1), false);
        CHECKS.due("timeout" + of, x.timeout(side), BAD);
        CHECKS.due("wire" + of + " (here 0)", x.wire(side, 0, 0), 0);
        CHECKS.due("stream" + of, x.stream(side, 0, 0), BAD);
        CHECKS.due("side" + of, x.side(side, 0), BAD);
    }

    private static void noSuchSide() {
        CHECKS.sentence("BAD: no such side (in all that follows)");
        StreamWires x = lively();
        int[] before = Scenes.look(x, 2);
        for (int side : NO_SIDES) {
            dueBadOfSide(x, side);
        }
        CHECKS.dueSame("nothing is changed", before, Scenes.look(x, 2));
    }

    private static void noSuchStream() {
        CHECKS.sentence("BAD: no such STREAM (in all that follows)");
        StreamWires x = lively();
        int[] before = Scenes.look(x, 2);
        for (int stream : NO_STREAMS) {
            for (int side = 0; side < 2; side++) {
                String of = " of stream " + stream + " at " + side;
                CHECKS.due("open" + of, x.open(side, stream), BAD);
                CHECKS.due("send" + of, x.send(side, stream, 1), BAD);
                CHECKS.due("mark" + of, x.mark(side, stream), BAD);
                CHECKS.due("close" + of, x.close(side, stream), BAD);
                CHECKS.due("receive" + of, x.receive(side, stream), BAD);
                CHECKS.due("weight" + of, x.weight(side, stream, 2), BAD);
                CHECKS.due("stream" + of, x.stream(side, stream, 0), BAD);
            }
        }
        CHECKS.dueSame("nothing is changed", before, Scenes.look(x, 2));
    }

    private static void openOfANewOne() {
        CHECKS.sentence("A NEW STREAM is OPEN at a side: 1");
        StreamWires x = new StreamWires(2, 2, 4, 20, 3);
        CHECKS.due("open", x.open(1, 1), 1);
        CHECKS.due("open there", x.stream(1, 1, 0), 1);
        CHECKS.due("not at the other side", x.stream(0, 1, 0), 0);
        CHECKS.due("not the other stream", x.stream(1, 0, 0), 0);
        CHECKS.due("the other side can open it too", x.open(0, 1), 1);
    }

    private static void openOfOneThatIsNotNew() {
        CHECKS.sentence("open: 0: it is not NEW");
        StreamWires x = new StreamWires(2, 2, 4, 20, 3);
        x.open(0, 0);
        CHECKS.due("open already", x.open(0, 0), 0);
        x.pump(0);
        CHECKS.due("its opening was sent", x.open(0, 0), 0);
        CHECKS.due("it is not to be sent anew", x.stream(0, 0, 6), 0);
        x.deliver(0);
        CHECKS.due("opened by the other side", x.open(1, 0), 0);
        CHECKS.due("it has no opening of its own", x.stream(1, 0, 6), 0);
        x.send(0, 0, 1);
        x.pump(0);
        x.close(0, 0);
        CHECKS.due("ending", x.open(0, 0), 0);
        CHECKS.due("still ending", x.stream(0, 0, 0), 2);
        CHECKS.due("its credit is what it was", x.stream(0, 0, 2), 4);
        Scenes.settle(x);
        CHECKS.due("shut", x.open(1, 0), 0);
        CHECKS.due("still shut", x.stream(1, 0, 1), 1);
    }

    private static void sendOfAWord() {
        CHECKS.sentence("send: A WORD is to be sent: 1");
        StreamWires x = Scenes.open(2, 2, 4, 20, 3);
        CHECKS.due("where it was opened", x.send(0, 0, 5), 1);
        CHECKS.due("where its opening came", x.send(1, 0, 6), 1);
        CHECKS.due("to be sent", x.stream(0, 0, 4), 1);
        CHECKS.due("to be sent", x.stream(1, 0, 4), 1);
        CHECKS.due("a cell", x.side(0, 0), 14);
        CHECKS.due("before its opening is sent", x.open(0, 1) + x.send(0, 1, 7), 2);
        x.close(1, 0);
        Scenes.settle(x);
        CHECKS.due("where it is shut", x.send(0, 0, 8), 1);
    }

    private static void sendWithoutAFreeCell() {
        CHECKS.sentence("send: 2: no FREE cell");
        StreamWires x = Scenes.open(1, 2, 4, 4, 3);
        CHECKS.due("two are free", x.send(0, 0, 1), 1);
        CHECKS.due("one is free", x.send(0, 0, 2), 1);
        CHECKS.due("none is free", x.send(0, 0, 3), 2);
        CHECKS.due("it is not to be sent", x.stream(0, 0, 4), 2);
        x.pump(0);
        CHECKS.due("sent, not known", x.send(0, 0, 3), 2);
        x.deliver(0);
        x.pump(1);
        x.deliver(1);
        CHECKS.due("known", x.send(0, 0, 3), 1);
        CHECKS.due("the other side has its own cells", x.send(1, 0, 4), 1);
    }

    private static void sendNotOpen() {
        CHECKS.sentence("send: 0: the STREAM is not OPEN there");
        StreamWires x = new StreamWires(1, 2, 4, 4, 3);
        CHECKS.due("new", x.send(0, 0, 1), 0);
        x.open(0, 0);
        CHECKS.due("new there", x.send(1, 0, 1), 0);
        x.close(0, 0);
        CHECKS.due("ending", x.send(0, 0, 1), 0);
        CHECKS.due("nothing is to be sent", x.stream(0, 0, 4), 0);
        CHECKS.due("no cell is used", x.side(0, 0), 2);
        CHECKS.due("no cell is used there", x.side(1, 0), 4);
    }

    private static void markLikewise() {
        CHECKS.sentence("A MARK likewise");
        StreamWires x = new StreamWires(1, 2, 4, 4, 3);
        CHECKS.due("new", x.mark(0, 0), 0);
        x.open(0, 0);
        CHECKS.due("two are free", x.mark(0, 0), 1);
        CHECKS.due("one is free", x.mark(0, 0), 1);
        CHECKS.due("none is free", x.mark(0, 0), 2);
        CHECKS.due("two are to be sent", x.stream(0, 0, 4), 2);
        x.close(0, 0);
        CHECKS.due("ending", x.mark(0, 0), 0);
        Scenes.settle(x);
        CHECKS.due("a mark", x.receive(1, 0), 2);
        CHECKS.due("a mark", x.receive(1, 0), 2);
        CHECKS.due("no more", x.receive(1, 0), 4);
    }

    private static void closeOfAnOpenOne() {
        CHECKS.sentence("close: No more is to be sent: 1");
        StreamWires x = Scenes.open(1, 2, 4, 20, 3);
        x.send(0, 0, 1);
        CHECKS.due("close", x.close(0, 0), 1);
        CHECKS.due("its items are still to be sent", x.stream(0, 0, 4), 1);
        CHECKS.due("no more", x.send(0, 0, 2), 0);
        CHECKS.due("nor marks", x.mark(0, 0), 0);
        Scenes.settle(x);
        CHECKS.due("close where its opening came", x.close(1, 0), 1);
        CHECKS.due("what lies there can be taken", x.receive(1, 0), 1);
    }

    private static void closeNotOpen() {
        CHECKS.sentence("close: 0: it is not OPEN there");
        StreamWires x = new StreamWires(1, 2, 4, 20, 3);
        CHECKS.due("new", x.close(0, 0), 0);
        CHECKS.dueStream("still new", x, 0, 0, 0, 0, 0, 0, 0, 0, 0, 0);
        x.open(0, 0);
        CHECKS.due("new there", x.close(1, 0), 0);
        CHECKS.due("open", x.close(0, 0), 1);
        CHECKS.due("ending", x.close(0, 0), 0);
        x.drain(0, 9);
        CHECKS.due("its end was sent", x.close(0, 0), 0);
        CHECKS.due("it is not to be sent anew", x.stream(0, 0, 7), 0);
    }

    private static void receiveTheOldest() {
        CHECKS.sentence("The oldest ITEM that lies there is taken: 1 a WORD (told by word()), 2 a MARK");
        StreamWires x = Scenes.open(1, 1, 9, 20, 9);
        x.mark(0, 0);
        Scenes.sendWords(x, 0, 0, 0, -1);
        x.mark(0, 0);
        Scenes.settle(x);
        int[] kinds = {2, 1, 1, 2};
        int[] words = {0, 0, -1, -1};
        for (int i = 0; i < kinds.length; i++) {
            CHECKS.due("lie there", x.stream(1, 0, 5), 4 - i);
            CHECKS.due("receive " + i, x.receive(1, 0), kinds[i]);
            CHECKS.due("word " + i, x.word(1), words[i]);
        }
        CHECKS.due("words that were taken", x.stream(1, 0, 8), 2);
        CHECKS.due("marks that were taken", x.stream(1, 0, 9), 2);
    }

    private static void receiveMakesDue() {
        CHECKS.sentence("and one more CREDIT is DUE");
        StreamWires x = Scenes.open(1, 4, 9, 20, 9);
        Scenes.sendWords(x, 0, 0, 1, 2);
        x.mark(0, 0);
        x.close(0, 0);
        Scenes.settle(x);
        CHECKS.due("none", x.stream(1, 0, 3), 0);
        x.receive(1, 0);
        CHECKS.due("one", x.stream(1, 0, 3), 1);
        x.receive(1, 0);
        CHECKS.due("two", x.stream(1, 0, 3), 2);
        x.receive(1, 0);
        CHECKS.due("for a mark too, though it is shut", x.stream(1, 0, 3), 3);
        CHECKS.due("none lies there", x.receive(1, 0), 4);
        CHECKS.due("no more", x.stream(1, 0, 3), 3);
        CHECKS.due("not at the other side", x.stream(0, 0, 3), 0);
    }

    private static void receiveNone() {
        CHECKS.sentence("3 none lies there");
        StreamWires x = Scenes.open(1, 4, 9, 20, 9);
        CHECKS.due("where it was opened", x.receive(0, 0), 3);
        CHECKS.due("where its opening came", x.receive(1, 0), 3);
        x.send(0, 0, 1);
        CHECKS.due("to be sent", x.receive(1, 0), 3);
        x.pump(0);
        CHECKS.due("on its way", x.receive(1, 0), 3);
        x.deliver(0);
        CHECKS.due("come", x.receive(1, 0), 1);
        CHECKS.due("taken", x.receive(1, 0), 3);
        x.close(1, 0);
        CHECKS.due("ending, not shut", x.receive(1, 0), 3);
        CHECKS.due("one is due", x.stream(1, 0, 3), 1);
        CHECKS.due("one was taken", x.stream(1, 0, 8), 1);
    }

    private static void receiveNoneAndShut() {
        CHECKS.sentence("4 none does, and it is SHUT");
        StreamWires x = Scenes.open(1, 4, 9, 20, 9);
        x.send(0, 0, 1);
        x.close(0, 0);
        Scenes.settle(x);
        CHECKS.due("one does, and it is shut", x.receive(1, 0), 1);
        CHECKS.due("none does", x.receive(1, 0), 4);
        CHECKS.due("for ever", x.receive(1, 0), 4);
        CHECKS.due("the other side is not shut", x.receive(0, 0), 3);
        x.close(1, 0);
        Scenes.settle(x);
        CHECKS.due("shut and ending", x.receive(1, 0), 4);
        CHECKS.due("shut and ending", x.receive(0, 0), 4);
    }

    private static void receiveOfANewOne() {
        CHECKS.sentence("0 it is NEW");
        StreamWires x = new StreamWires(2, 4, 9, 20, 9);
        CHECKS.due("new", x.receive(0, 0), 0);
        x.open(0, 0);
        CHECKS.due("new there", x.receive(1, 0), 0);
        x.pump(0);
        CHECKS.due("its opening is on its way", x.receive(1, 0), 0);
        x.deliver(0);
        CHECKS.due("it came", x.receive(1, 0), 3);
        CHECKS.due("the other one is new", x.receive(1, 1), 0);
        CHECKS.due("none is due", x.stream(1, 1, 3), 0);
    }

    private static void lastWord() {
        CHECKS.sentence("The WORD that receive() took last at a side");
        StreamWires x = Scenes.open(2, 4, 9, 20, 9);
        x.open(0, 1);
        x.send(0, 0, 5);
        x.mark(0, 0);
        x.send(0, 1, Integer.MIN_VALUE);
        Scenes.settle(x);
        CHECKS.due("stream 1", x.receive(1, 1), 1);
        CHECKS.due("its word", x.word(1), Integer.MIN_VALUE);
        CHECKS.due("stream 0", x.receive(1, 0), 1);
        CHECKS.due("its word", x.word(1), 5);
        CHECKS.due("a mark", x.receive(1, 0), 2);
        CHECKS.due("the word stays", x.word(1), 5);
        CHECKS.due("none", x.receive(1, 0), 3);
        CHECKS.due("the word stays", x.word(1), 5);
        x.send(1, 0, 9);
        Scenes.settle(x);
        CHECKS.due("at the other side", x.receive(0, 0), 1);
        CHECKS.due("its word", x.word(0), 9);
        CHECKS.due("this side's stays", x.word(1), 5);
    }

    private static void noWordBefore() {
        CHECKS.sentence("word: (0 before)");
        StreamWires x = Scenes.open(1, 4, 9, 20, 9);
        CHECKS.due("nothing came", x.word(1), 0);
        x.mark(0, 0);
        x.send(0, 0, 5);
        Scenes.settle(x);
        CHECKS.due("nothing was taken", x.word(1), 0);
        x.receive(1, 0);
        CHECKS.due("a mark was taken", x.word(1), 0);
        x.receive(1, 0);
        CHECKS.due("a word was taken", x.word(1), 5);
        CHECKS.due("at the other side", x.word(0), 0);
    }

    private static void weightsWithinLimits() {
        CHECKS.sentence("A STREAM's WEIGHT at a side (1 .. 4): what it was");
        StreamWires x = new StreamWires(2, 4, 9, 20, 9);
        int[] weights = {1, 4, 2, 3, 1};
        int was = 1;
        for (int w : weights) {
            CHECKS.due("weight " + w, x.weight(0, 1, w), was);
            was = w;
        }
        x.weight(0, 1, 4);
        CHECKS.due("the other stream", x.weight(0, 0, 1), 1);
        CHECKS.due("the other side", x.weight(1, 1, 1), 1);
        x.open(0, 1);
        x.close(0, 1);
        CHECKS.due("of one that is ending", x.weight(0, 1, 1), 4);
    }

    private static void weightsBeyondLimits() {
        CHECKS.sentence("weight: BAD, too: another one");
        StreamWires x = new StreamWires(2, 4, 9, 20, 9);
        x.weight(0, 1, 3);
        for (int w : new int[] {0, 5, -1, 1001, Integer.MIN_VALUE, Integer.MAX_VALUE}) {
            CHECKS.due("weight " + w, x.weight(0, 1, w), BAD);
        }
        CHECKS.due("it is what it was", x.weight(0, 1, 3), 3);
    }

    private static void pumpTellsTheStream() {
        CHECKS.sentence("PUMP: 1 and the STREAM");
        StreamWires x = new StreamWires(8, 4, 15, 400, 20);
        for (int stream = 0; stream < 8; stream++) {
            x.open(0, stream);
        }
        for (int stream = 0; stream < 8; stream++) {
            CHECKS.due("opening of " + stream, x.pump(0), 1 + stream);
        }
        Scenes.settle(x);
        x.send(0, 7, 1);
        CHECKS.due("data of 7", x.pump(0), 8);
        x.close(0, 7);
        CHECKS.due("end of 7", x.pump(0), 8);
        Scenes.settle(x);
        x.receive(1, 7);
        CHECKS.due("grant of 7", x.pump(1), 8);
    }

    private static void pumpTellsAnAck() {
        CHECKS.sentence("pump: 50 an ACK");
        StreamWires x = Scenes.data(1);
        x.deliver(0);
        CHECKS.due("pump", x.pump(1), 50);
        CHECKS.due("sent", x.side(1, 4), 1);
    }

    private static void pumpOfNothing() {
        CHECKS.sentence("pump: 0 nothing");
        StreamWires x = new StreamWires(2, 4, 15, 20, 20);
        int[] before = Scenes.look(x, 2);
        CHECKS.due("pump", x.pump(0), 0);
        CHECKS.due("pump", x.pump(1), 0);
        CHECKS.dueSame("new", before, Scenes.look(x, 2));
    }

    private static void drainUpTo() {
        CHECKS.sentence("PUMP up to n (0 .. 1,000) times");
        StreamWires x = Scenes.open(1, 1, 15, 400, 20);
        for (int i = 0; i < 9; i++) {
            x.send(0, 0, i);
        }
        CHECKS.due("none", x.drain(0, 0), 0);
        CHECKS.due("none was sent", x.side(0, 4), 0);
        CHECKS.due("one", x.drain(0, 1), 1);
        CHECKS.due("one was sent", x.side(0, 4), 1);
        CHECKS.due("two", x.drain(0, 2), 2);
        CHECKS.due("three were sent", x.side(0, 4), 3);
        CHECKS.due("just all", x.drain(0, 6), 6);
        CHECKS.due("all were sent", x.side(0, 4), 9);
    }

    private static void drainUntilNothing() {
        CHECKS.sentence("drain: until nothing comes: how many frames");
        StreamWires x = Scenes.open(1, 1, 15, 400, 20);
        CHECKS.due("nothing", x.drain(0, 1000), 0);
        Scenes.sendWords(x, 0, 0, 1, 2, 3);
        CHECKS.due("the most", x.drain(0, 1000), 3);
        CHECKS.due("nothing more", x.drain(0, 1000), 0);
        Scenes.deliverAll(x, 0);
        CHECKS.due("an ack is a frame", x.drain(1, 1000), 1);
        Scenes.deliverAll(x, 1);
        for (int i = 0; i < 20; i++) {
            x.send(0, 0, i);
        }
        CHECKS.due("until the window is full", x.drain(0, 1000), 15);
        StreamWires y = Scenes.open(1, 1, 15, 400, 2);
        Scenes.sendWords(y, 0, 0, 1, 2, 3);
        CHECKS.due("until the wire is full", y.drain(0, 1000), 2);
    }

    private static void drainBeyondLimits() {
        CHECKS.sentence("drain: BAD, too: another n");
        StreamWires x = Scenes.open(1, 1, 15, 400, 20);
        x.send(0, 0, 1);
        for (int n : new int[] {-1, 1001, Integer.MIN_VALUE, Integer.MAX_VALUE}) {
            CHECKS.due("drain of " + n, x.drain(0, n), BAD);
        }
        CHECKS.due("nothing was sent", x.side(0, 4), 0);
        CHECKS.due("1,000 is one of them", x.drain(0, 1000), 1);
    }
}
