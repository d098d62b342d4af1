/** The edges that promises 11 to 17 name, call by call: a test for each of their sentences. */
public final class WireEdgesTest {
    private static final Checks CHECKS = new Checks();
    private static final int BAD = StreamWires.BAD;
    private static final int DATA = Craft.DATA, OPENING = Craft.OPENING, END = Craft.END;

    public static void main(String[] args) {
        deliverTells();
        deliverOfNone();
        loseTheOldest();
        loseNone();
        corruptTheOldest();
        corruptNoSuchWord();
        corruptWithoutBits();
        timeoutInOrder();
        timeoutOfNone();
        timeoutWithWanted();
        timeoutWithoutRoom();
        wireTells();
        wireOfNoSuchFrame();
        wireOfNoSuchWord();
        streamTells();
        streamOfAnotherNumber();
        freeAndOut();
        oldestOrNext();
        waitedFor();
        framesOnTheWire();
        turnAndLeft();
        ackWouldCome();
        framesSent();
        framesThatCame();
        sideOfAnotherNumber();
        CHECKS.end();
    }

    /** Of stream 1 from side 0: its opening, two words with a mark between them, its end; W is 5. */
    private static StreamWires three(int room) {
        StreamWires x = new StreamWires(2, 4, 5, 60, room);
        x.open(0, 1);
        x.send(0, 1, 21);
        x.mark(0, 1);
        x.send(0, 1, 22);
        x.close(0, 1);
        x.drain(0, 9);
        return x;
    }

    private static int[] frame(int number, int wanted) {
        return switch (number) {
            case 0 -> Craft.sealed(Craft.head(OPENING, 1, 0, wanted, 0));
            case 1 -> Craft.sealed(Craft.head(DATA, 1, 1, wanted, 3), 2, 21, 0, 22);
            default -> Craft.sealed(Craft.head(END, 1, 2, wanted, 0));
        };
    }

    private static void deliverTells() {
        CHECKS.sentence("deliver: 1 it was TAKEN, 2 SPOILT, 3 an ACK, 4 LATE");
        StreamWires x = three(9);
        CHECKS.due("taken", x.deliver(0), 1);
        x.corrupt(0, 5, 1);
        CHECKS.due("spoilt", x.deliver(0), 2);
        CHECKS.due("late", x.deliver(0), 4);
        x.pump(1);
        CHECKS.due("an ack", x.deliver(1), 3);
    }

    private static void deliverOfNone() {
        CHECKS.sentence("deliver: 0 there is none");
        StreamWires x = three(9);
        CHECKS.due("none on the other wire", x.deliver(1), 0);
        Scenes.deliverAll(x, 0);
        int[] before = Scenes.look(x, 2);
        CHECKS.due("none", x.deliver(0), 0);
        CHECKS.dueSame("nothing is changed", before, Scenes.look(x, 2));
    }

    private static void loseTheOldest() {
        CHECKS.sentence("The oldest frame of the wire from a side is lost");
        StreamWires x = three(9);
        CHECKS.due("lose", x.lose(0), true);
        CHECKS.due("two are left", x.side(0, 4), 2);
        CHECKS.dueFrame("the second is the oldest", x, 0, 0, frame(1, 0));
        CHECKS.due("all are out", x.side(0, 1), 3);
        CHECKS.due("nothing came", x.side(1, 3), 0);
        CHECKS.due("nor did anything spoilt", x.side(1, 10), 0);
    }

    private static void loseNone() {
        CHECKS.sentence("lose: False: none, no such side");
        StreamWires x = three(9);
        CHECKS.due("none on the other wire", x.lose(1), false);
        for (int i = 0; i < 3; i++) {
            CHECKS.due("one", x.lose(0), true);
        }
        CHECKS.due("none", x.lose(0), false);
        CHECKS.due("no such side", x.lose(2), false);
        CHECKS.due("no such side", x.lose(-1), false);
        CHECKS.due("none is there", x.side(0, 4), 0);
        x.timeout(0);
        CHECKS.due("one again", x.lose(0), true);
    }

    private static void corruptTheOldest() {
        CHECKS.sentence("Of the oldest frame word k changes where mask has bits");
        StreamWires x = three(9);
        x.lose(0);
        int[] words = frame(1, 0);
        int[] masks = {1, -1, Integer.MIN_VALUE, 65535, 256, 3};
        for (int k = 0; k < words.length; k++) {
            CHECKS.due("word " + k, x.corrupt(0, k, masks[k]), true);
            words[k] ^= masks[k];
        }
        CHECKS.dueFrame("changed", x, 0, 0, words);
        CHECKS.dueFrame("the next one is not", x, 0, 1, frame(2, 0));
        x.corrupt(0, 1, -1);
        words[1] = ~words[1];
        CHECKS.dueFrame("changed once more", x, 0, 0, words);
        x.timeout(0);
        CHECKS.dueFrame("what is out is not", x, 0, 3, frame(1, 0));
    }

    private static void corruptNoSuchWord() {
        CHECKS.sentence("corrupt: False: none such");
        StreamWires x = three(9);
        for (int k : new int[] {-1, 2, 3, 19, Integer.MIN_VALUE, Integer.MAX_VALUE}) {
            CHECKS.due("word " + k + " of two", x.corrupt(0, k, 1), false);
        }
        CHECKS.due("no frame", x.corrupt(1, 0, 1), false);
        CHECKS.due("no such side", x.corrupt(2, 0, 1), false);
        CHECKS.due("no such side", x.corrupt(-1, 0, 1), false);
        for (int number = 0; number < 3; number++) {
            CHECKS.dueFrame("unchanged", x, 0, number, frame(number, 0));
        }
        x.lose(0);
        CHECKS.due("the sum of the second", x.corrupt(0, 5, 1), true);
        CHECKS.due("behind it", x.corrupt(0, 6, 1), false);
    }

    private static void corruptWithoutBits() {
        CHECKS.sentence("corrupt: False: mask is 0");
        StreamWires x = three(9);
        CHECKS.due("mask 0", x.corrupt(0, 0, 0), false);
        CHECKS.dueFrame("unchanged", x, 0, 0, frame(0, 0));
        CHECKS.due("taken", x.deliver(0), 1);
    }

    private static void timeoutInOrder() {
        CHECKS.sentence("All that is OUT of a side is sent once more, in order: how many");
        StreamWires x = three(9);
        CHECKS.due("all", x.timeout(0), 3);
        for (int i = 0; i < 6; i++) {
            CHECKS.dueFrame("frame " + i, x, 0, i, frame(i % 3, 0));
        }
        CHECKS.due("three are out, still", x.side(0, 1), 3);
        CHECKS.due("the oldest", x.side(0, 2), 0);
        x.deliver(0);
        x.pump(1);
        x.deliver(1);
        CHECKS.due("one is known", x.timeout(0), 2);
        CHECKS.dueFrame("the second", x, 0, 5, frame(1, 0));
        CHECKS.dueFrame("the third", x, 0, 6, frame(2, 0));
    }

    private static void timeoutOfNone() {
        CHECKS.sentence("timeout: All that is OUT: nothing is");
        StreamWires x = three(9);
        CHECKS.due("nothing is out there", x.timeout(1), 0);
        Scenes.deliverAll(x, 0);
        x.pump(1);
        CHECKS.due("an ack is never out", x.timeout(1), 0);
        x.deliver(1);
        int[] before = Scenes.look(x, 2);
        CHECKS.due("all is known", x.timeout(0), 0);
        CHECKS.dueSame("nothing is changed", before, Scenes.look(x, 2));
        x.timeout(1);
        x.send(1, 1, 1);
        x.pump(1);
        x.deliver(1);
        CHECKS.due("nothing is out, an ack would come", x.timeout(0), 0);
        CHECKS.due("it still would", x.side(0, 7), 1);
    }

    private static void timeoutWithWanted() {
        CHECKS.sentence("timeout: each with what is WANTED now");
        StreamWires x = three(20);
        for (int wanted = 1; wanted <= 3; wanted++) {
            x.open(1, 0);
            x.send(1, 0, wanted);
            x.pump(1);
            CHECKS.due("taken", x.deliver(1), 1);
            CHECKS.due("wanted", x.side(0, 3), wanted);
            x.timeout(0);
            for (int number = 0; number < 3; number++) {
                CHECKS.dueFrame("wanted " + wanted, x, 0, 3 * wanted + number, frame(number, wanted));
                CHECKS.dueFrame("wanted before", x, 0, number, frame(number, 0));
            }
        }
        for (int i = 0; i < 9; i++) {
            x.lose(0);
        }
        CHECKS.due("it comes", x.deliver(0), 1);
        CHECKS.due("all of side 1 is known by it", x.side(1, 1), 0);
    }

    private static void timeoutWithoutRoom() {
        CHECKS.sentence("timeout: as long as the wire has room");
        StreamWires x = three(4);
        CHECKS.due("room for one", x.timeout(0), 1);
        CHECKS.dueFrame("the oldest", x, 0, 3, frame(0, 0));
        CHECKS.due("no room", x.timeout(0), 0);
        CHECKS.due("sent", x.side(0, 8), 4);
        x.lose(0);
        x.lose(0);
        CHECKS.due("room for two", x.timeout(0), 2);
        CHECKS.dueFrame("the oldest", x, 0, 2, frame(0, 0));
        CHECKS.dueFrame("the next one", x, 0, 3, frame(1, 0));
        StreamWires y = three(3);
        CHECKS.due("full", y.timeout(0), 0);
        for (int i = 0; i < 3; i++) {
            y.lose(0);
        }
        CHECKS.due("just room for all", y.timeout(0), 3);
    }

    private static void wireTells() {
        CHECKS.sentence("Word k of frame i of the wire from a side");
        StreamWires x = three(9);
        for (int i = 0; i < 3; i++) {
            CHECKS.dueFrame("frame " + i, x, 0, i, frame(i, 0));
        }
        x.deliver(0);
        CHECKS.dueFrame("the second is the first now", x, 0, 0, frame(1, 0));
        CHECKS.due("two", x.side(0, 4), 2);
    }

    private static void wireOfNoSuchFrame() {
        CHECKS.sentence("wire: BAD (here 0): none such (frame)");
        StreamWires x = three(3);
        for (int i : new int[] {-1, 3, 4, 20, Integer.MIN_VALUE, Integer.MAX_VALUE}) {
            for (int k = 0; k < 3; k++) {
                CHECKS.due("word " + k + " of frame " + i, x.wire(0, i, k), 0);
            }
        }
        CHECKS.due("no frame on the other wire", x.wire(1, 0, 0), 0);
        x.lose(0);
        CHECKS.due("one that is gone", x.wire(0, 2, 0), 0);
        CHECKS.due("no such side", x.wire(2, 0, 0), 0);
        CHECKS.due("no such side", x.wire(-1, 0, 0), 0);
    }

    private static void wireOfNoSuchWord() {
        CHECKS.sentence("wire: BAD (here 0): none such (word)");
        StreamWires x = three(3);
        int[] words = {2, 6, 2};
        for (int i = 0; i < 3; i++) {
            CHECKS.due("the last one of frame " + i, x.wire(0, i, words[i] - 1) != 0, true);
            for (int k : new int[] {-1, words[i], words[i] + 1, 19, Integer.MIN_VALUE, Integer.MAX_VALUE}) {
                CHECKS.due("word " + k + " of frame " + i, x.wire(0, i, k), 0);
            }
        }
        // A short frame takes the place of a long one, whose words must not be told behind it.
        x.lose(0);
        x.lose(0);
        x.timeout(0);
        x.lose(0);
        x.timeout(0);
        for (int i = 0; i < 3; i++) {
            int length = (x.wire(0, i, 0) & 7) == DATA ? 6 : 2;
            CHECKS.due("behind the last one of frame " + i, x.wire(0, i, length), 0);
        }
    }

    private static void streamTells() {
        CHECKS.sentence("Of a STREAM at a side: 0 how it is .. 9 MARKS that were taken by receive()");
        StreamWires x = Scenes.open(2, 2, 9, 24, 9);
        Scenes.sendWords(x, 0, 0, 1, 2);
        x.mark(0, 0);
        Scenes.settle(x);
        CHECKS.dueStream("three lie there", x, 1, 0, 1, 0, 6, 0, 0, 3, 0, 0, 0, 0);
        x.receive(1, 0);
        x.receive(1, 0);
        x.receive(1, 0);
        CHECKS.dueStream("two words and a mark were taken", x, 1, 0, 1, 0, 6, 3, 0, 0, 0, 0, 2, 1);
        x.mark(1, 0);
        x.close(1, 0);
        CHECKS.dueStream("a mark to be sent, an end behind it", x, 1, 0, 2, 0, 6, 3, 1, 0, 0, 1, 2, 1);
        CHECKS.dueStream("the sender", x, 0, 0, 1, 0, 3, 0, 0, 0, 0, 0, 0, 0);
        Scenes.settle(x);
        CHECKS.dueStream("all sent", x, 1, 0, 2, 0, 5, 0, 0, 0, 0, 0, 2, 1);
        CHECKS.dueStream("all came", x, 0, 0, 1, 1, 6, 0, 0, 1, 0, 0, 0, 0);
        x.receive(0, 0);
        CHECKS.dueStream("a mark was taken", x, 0, 0, 1, 1, 6, 1, 0, 0, 0, 0, 0, 1);
        x.open(1, 1);
        CHECKS.dueStream("an opening to be sent", x, 1, 1, 1, 0, 6, 0, 0, 0, 1, 0, 0, 0);
        CHECKS.dueStream("new there", x, 0, 1, 0, 0, 0, 0, 0, 0, 0, 0, 0, 0);
    }

    private static void streamOfAnotherNumber() {
        CHECKS.sentence("stream: BAD: another number");
        StreamWires x = Scenes.open(2, 2, 9, 24, 9);
        for (int what : new int[] {-1, 10, 11, 12, Integer.MIN_VALUE, Integer.MAX_VALUE}) {
            CHECKS.due("number " + what, x.stream(0, 0, what), BAD);
            CHECKS.due("number " + what + " of a new one", x.stream(1, 1, what), BAD);
        }
        CHECKS.due("the last one", x.stream(0, 0, 9), 0);
        CHECKS.due("the first one", x.stream(0, 0, 0), 1);
    }

    private static void freeAndOut() {
        CHECKS.sentence("Of a side: 0 FREE cells, 1 how many are OUT");
        StreamWires x = new StreamWires(1, 1, 2, 6, 9);
        CHECKS.due("all are free", x.side(0, 0), 6);
        CHECKS.due("none is out", x.side(0, 1), 0);
        x.open(0, 0);
        Scenes.sendWords(x, 0, 0, 1, 2, 3);
        CHECKS.due("none is free", x.side(0, 0), 0);
        x.drain(0, 9);
        CHECKS.due("W are out", x.side(0, 1), 2);
        Scenes.settle(x);
        CHECKS.due("none is out", x.side(0, 1), 0);
        CHECKS.due("three are free", x.side(0, 0), 3);
    }

    private static void oldestOrNext() {
        CHECKS.sentence("2 the NUMBER of the oldest of these, or of the next one");
        StreamWires x = new StreamWires(1, 1, 2, 60, 9);
        CHECKS.due("the first one", x.side(0, 2), 0);
        x.open(0, 0);
        x.send(0, 0, 1);
        x.drain(0, 9);
        CHECKS.due("the oldest", x.side(0, 2), 0);
        x.deliver(0);
        x.pump(1);
        x.deliver(1);
        CHECKS.due("the oldest", x.side(0, 2), 1);
        x.deliver(0);
        x.pump(1);
        x.deliver(1);
        CHECKS.due("the next one", x.side(0, 2), 2);
        CHECKS.due("none is out", x.side(0, 1), 0);
        x.send(0, 0, 2);
        Scenes.settle(x);
        CHECKS.due("the next one, 0 again", x.side(0, 2), 0);
    }

    private static void waitedFor() {
        CHECKS.sentence("3 the NUMBER that it waits for");
        StreamWires x = three(9);
        CHECKS.due("the first", x.side(1, 3), 0);
        x.deliver(0);
        CHECKS.due("the second", x.side(1, 3), 1);
        x.lose(0);
        x.deliver(0);
        CHECKS.due("the second, still", x.side(1, 3), 1);
        Scenes.settle(x);
        x.timeout(0);
        Scenes.deliverAll(x, 0);
        CHECKS.due("behind the third", x.side(1, 3), 3);
        CHECKS.due("the other side waits for its own", x.side(0, 3), 0);
    }

    private static void framesOnTheWire() {
        CHECKS.sentence("4 frames on the wire from it");
        StreamWires x = three(4);
        CHECKS.due("three", x.side(0, 4), 3);
        x.timeout(0);
        CHECKS.due("full", x.side(0, 4), 4);
        x.deliver(0);
        CHECKS.due("one came", x.side(0, 4), 3);
        x.lose(0);
        CHECKS.due("one is lost", x.side(0, 4), 2);
        CHECKS.due("the other wire", x.side(1, 4), 0);
        x.pump(1);
        CHECKS.due("an ack is on it", x.side(1, 4), 1);
        Scenes.deliverAll(x, 0);
        CHECKS.due("empty", x.side(0, 4), 0);
    }

    private static void turnAndLeft() {
        CHECKS.sentence("5 the STREAM whose TURN it is, 6 frames left of that");
        StreamWires x = new StreamWires(8, 1, 15, 400, 20);
        CHECKS.due("the first one", x.side(0, 5), 0);
        CHECKS.due("its weight", x.side(0, 6), 1);
        x.weight(0, 6, 2);
        x.weight(0, 7, 4);
        x.open(0, 6);
        x.open(0, 7);
        x.pump(0);
        CHECKS.due("stream 6", x.side(0, 5), 6);
        CHECKS.due("one is left", x.side(0, 6), 1);
        x.send(0, 6, 1);
        x.pump(0);
        CHECKS.due("stream 7", x.side(0, 5), 7);
        CHECKS.due("all are left", x.side(0, 6), 4);
        CHECKS.due("the other side has its own", x.side(1, 5), 0);
        CHECKS.due("the other side has its own", x.side(1, 6), 1);
    }

    private static void ackWouldCome() {
        CHECKS.sentence("7 whether an ACK would come");
        StreamWires x = three(9);
        CHECKS.due("nothing came", x.side(1, 7), 0);
        x.deliver(0);
        CHECKS.due("one was taken", x.side(1, 7), 1);
        CHECKS.due("not at the other side", x.side(0, 7), 0);
        x.pump(1);
        CHECKS.due("it was sent", x.side(1, 7), 0);
        x.lose(0);
        x.deliver(0);
        CHECKS.due("one was late", x.side(1, 7), 1);
        x.pump(1);
        x.deliver(1);
        x.deliver(1);
        CHECKS.due("acks came", x.side(0, 7), 0);
        x.timeout(0);
        x.corrupt(0, 0, 1);
        x.deliver(0);
        CHECKS.due("one was spoilt", x.side(1, 7), 0);
    }

    private static void framesSent() {
        CHECKS.sentence("8 frames sent (timeouts too)");
        StreamWires x = three(5);
        CHECKS.due("three", x.side(0, 8), 3);
        x.timeout(0);
        CHECKS.due("two more had room", x.side(0, 8), 5);
        x.timeout(0);
        CHECKS.due("none had room", x.side(0, 8), 5);
        x.lose(0);
        CHECKS.due("a lost one was sent", x.side(0, 8), 5);
        x.lose(0);
        x.lose(0);
        x.deliver(0);
        CHECKS.due("none by the other side", x.side(1, 8), 0);
        x.pump(1);
        CHECKS.due("an ack", x.side(1, 8), 1);
        x.pump(1);
        CHECKS.due("nothing more", x.side(1, 8), 1);
    }

    private static void framesThatCame() {
        CHECKS.sentence("9 TAKEN, 10 SPOILT, 11 LATE here");
        StreamWires x = three(20);
        x.timeout(0);
        int[][] want = {{1, 0, 0}, {1, 1, 0}, {1, 1, 1}, {1, 1, 2}, {2, 1, 2}, {3, 1, 2}};
        for (int i = 0; i < want.length; i++) {
            if (i == 1) {
                x.corrupt(0, 0, 1 << 31);
            }
            x.deliver(0);
            for (int k = 0; k < 3; k++) {
                CHECKS.due("behind frame " + i + ": side(1, " + (9 + k) + ")", x.side(1, 9 + k), want[i][k]);
                CHECKS.due("none here", x.side(0, 9 + k), 0);
            }
        }
        x.timeout(0);
        Craft.forge(x, 0, Craft.head(OPENING, 1, 3, 0, 0));
        x.deliver(0);
        CHECKS.due("a second opening is spoilt", x.side(1, 10), 2);
        CHECKS.due("and not taken", x.side(1, 9), 3);
        x.pump(1);
        x.deliver(1);
        for (int what = 9; what <= 11; what++) {
            CHECKS.due("an ack is none of these", x.side(0, what), 0);
        }
    }

    private static void sideOfAnotherNumber() {
        CHECKS.sentence("side: BAD: another number");
        StreamWires x = three(9);
        for (int what : new int[] {-1, 12, 13, Integer.MIN_VALUE, Integer.MAX_VALUE}) {
            CHECKS.due("number " + what, x.side(0, what), BAD);
            CHECKS.due("number " + what, x.side(1, what), BAD);
        }
        CHECKS.due("the last one", x.side(0, 11), 0);
        CHECKS.due("the first one", x.side(1, 0), 60);
    }
}
