/** The edges that the document's terms name, from sides and streams to numbers and wires: a test for each sentence. */
public final class TermsEdgesTest {
    private static final Checks CHECKS = new Checks();
    private static final int ACK = Craft.ACK, DATA = Craft.DATA, GRANT = Craft.GRANT, OPENING = Craft.OPENING, END = Craft.END;

    public static void main(String[] args) {
        sides();
        streams();
        items();
        keptCells();
        keptCellsAreCutOff();
        oneCellAtLeast();
        cellsOfItems();
        freeIsNeverLessThanNone();
        howAStreamIs();
        shut();
        openingAndEndAreToBeSent();
        creditAtFirst();
        largestHead();
        marksBits();
        grantsWord();
        sumOfHalves();
        sumModulo();
        numbersGoAround();
        numbersForEachWay();
        mostAreOut();
        wanted();
        wireHasRoom();
        behindTheOthers();
        noRoom();
        manyCalls();
        CHECKS.end();
    }

    private static void sides() {
        CHECKS.sentence("SIDES are 0 and 1");
        StreamWires x = new StreamWires(1, 1, 1, 4, 1);
        CHECKS.due("open(0, 0)", x.open(0, 0), 1);
        CHECKS.due("open(1, 0)", x.open(1, 0), 1);
        CHECKS.due("open(-1, 0)", x.open(-1, 0), StreamWires.BAD);
        CHECKS.due("open(2, 0)", x.open(2, 0), StreamWires.BAD);
    }

    private static void streams() {
        CHECKS.sentence("STREAMS 0 .. s - 1");
        for (int s = 1; s <= 8; s++) {
            StreamWires x = new StreamWires(s, 1, 1, 400, 1);
            for (int side = 0; side < 2; side++) {
                CHECKS.due("before the first of " + s, x.open(side, -1), StreamWires.BAD);
                CHECKS.due("the first of " + s, x.open(side, 0), 1);
                CHECKS.due("the last of " + s, x.open(side, s - 1), s == 1 ? 0 : 1);
                CHECKS.due("behind the last of " + s, x.open(side, s), StreamWires.BAD);
            }
        }
    }

    private static void items() {
        CHECKS.sentence("An ITEM is a WORD (32 bits) or a MARK");
        int[] words = {0, 1, -1, Integer.MIN_VALUE, Integer.MAX_VALUE, 65535, 65536, -65536};
        StreamWires x = Scenes.open(1, 16, 15, 400, 20);
        for (int word : words) {
            x.send(0, 0, word);
            x.mark(0, 0);
        }
        Scenes.settle(x);
        for (int word : words) {
            CHECKS.due("a word", x.receive(1, 0), 1);
            CHECKS.due("it", x.word(1), word);
            CHECKS.due("a mark", x.receive(1, 0), 2);
            CHECKS.due("the word before it", x.word(1), word);
        }
    }

    private static void keptCells() {
        CHECKS.sentence("of each STREAM that is not NEW there R are kept for what comes");
        StreamWires x = new StreamWires(2, 2, 5, 40, 9);
        CHECKS.due("all are new", x.side(0, 0), 40);
        x.open(0, 1);
        CHECKS.due("one is open", x.side(0, 0), 30);
        CHECKS.due("it is new there", x.side(1, 0), 40);
        x.pump(0);
        x.deliver(0);
        CHECKS.due("its opening came", x.side(1, 0), 30);
        x.close(1, 1);
        CHECKS.due("it is ending", x.side(1, 0), 30);
        Scenes.settle(x);
        CHECKS.due("it is shut", x.side(0, 0), 30);
        x.send(0, 1, 7);
        Scenes.settle(x);
        CHECKS.due("what lies there needs no more", x.side(1, 0), 30);
        x.open(0, 0);
        CHECKS.due("both are open", x.side(0, 0), 20);
    }

    private static void dueKept(int streams, int cells, int kept) {
        StreamWires x = new StreamWires(streams, 1, 1, cells, 1);
        x.open(0, 0);
        String of = " of " + streams + " streams and " + cells + " cells";
        CHECKS.due("cells that are kept" + of, cells - x.side(0, 0), kept);
        CHECKS.due("credit" + of, x.stream(0, 0, 2), kept);
    }

    private static void keptCellsAreCutOff() {
        CHECKS.sentence("(R: CELLS by 2 s, cut off");
        dueKept(1, 4, 2);
        dueKept(1, 5, 2);
        dueKept(1, 6, 3);
        dueKept(1, 399, 199);
        dueKept(1, 400, 200);
        dueKept(3, 11, 1);
        dueKept(3, 12, 2);
        dueKept(3, 17, 2);
        dueKept(8, 31, 1);
        dueKept(8, 32, 2);
        dueKept(8, 400, 25);
    }

    private static void oneCellAtLeast() {
        CHECKS.sentence("1 at least)");
        dueKept(8, 4, 1);
        dueKept(8, 15, 1);
        dueKept(8, 16, 1);
        dueKept(3, 5, 1);
        StreamWires x = Scenes.open(8, 4, 3, 4, 9);
        Scenes.sendWords(x, 0, 0, 1, 2);
        Scenes.settle(x);
        CHECKS.due("one lies there", x.stream(1, 0, 5), 1);
        CHECKS.due("one waits for credit", x.stream(0, 0, 4), 1);
    }

    private static void cellsOfItems() {
        CHECKS.sentence("ITEMS that are to be sent, or were sent and are not yet known to have come, have one each");
        StreamWires x = Scenes.open(1, 2, 5, 20, 9);
        CHECKS.due("no items", x.side(0, 0), 10);
        Scenes.sendWords(x, 0, 0, 1, 2);
        x.mark(0, 0);
        CHECKS.due("to be sent", x.side(0, 0), 7);
        x.pump(0);
        CHECKS.due("two sent", x.side(0, 0), 7);
        x.pump(0);
        CHECKS.due("all sent", x.side(0, 0), 7);
        x.deliver(0);
        CHECKS.due("two came, not known", x.side(0, 0), 7);
        x.pump(1);
        CHECKS.due("an ack is on its way", x.side(0, 0), 7);
        x.deliver(1);
        CHECKS.due("two are known", x.side(0, 0), 9);
        x.lose(0);
        CHECKS.due("the last one is lost", x.side(0, 0), 9);
        x.timeout(0);
        CHECKS.due("and sent once more", x.side(0, 0), 9);
        Scenes.settle(x);
        CHECKS.due("all are known", x.side(0, 0), 10);
        x.close(0, 0);
        x.pump(0);
        CHECKS.due("other frames need none", x.side(0, 0), 10);
    }

    private static void freeIsNeverLessThanNone() {
        CHECKS.sentence("the others are FREE (0, if there are fewer than none)");
        StreamWires x = Scenes.open(8, 4, 5, 4, 9);
        CHECKS.due("three others", x.side(0, 0), 3);
        Scenes.sendWords(x, 0, 0, 1, 2, 3);
        CHECKS.due("just none", x.side(0, 0), 0);
        for (int stream = 1; stream < 8; stream++) {
            CHECKS.due("a cell is kept all the same", x.open(0, stream), 1);
            CHECKS.due("fewer than none", x.side(0, 0), 0);
        }
        Scenes.settle(x);
        CHECKS.due("an item is known, four cells are still too few", x.side(0, 0), 0);
        CHECKS.due("send", x.send(0, 1, 1), 2);
        CHECKS.due("at the other side too", x.side(1, 0), 0);
    }

    private static void howAStreamIs() {
        CHECKS.sentence("A STREAM is at a side NEW, OPEN, or ENDING (behind close())");
        StreamWires x = new StreamWires(1, 1, 5, 20, 9);
        CHECKS.due("new", x.stream(0, 0, 0), 0);
        x.open(0, 0);
        CHECKS.due("open", x.stream(0, 0, 0), 1);
        CHECKS.due("new there", x.stream(1, 0, 0), 0);
        x.close(0, 0);
        CHECKS.due("ending", x.stream(0, 0, 0), 2);
        Scenes.settle(x);
        CHECKS.due("ending for ever", x.stream(0, 0, 0), 2);
        CHECKS.due("open there", x.stream(1, 0, 0), 1);
        x.close(1, 0);
        Scenes.settle(x);
        CHECKS.due("ending for ever", x.stream(0, 0, 0), 2);
        CHECKS.due("ending there", x.stream(1, 0, 0), 2);
    }

    private static void shut() {
        CHECKS.sentence("it is SHUT there, if the other side's end of it has come");
        StreamWires x = Scenes.open(2, 1, 5, 20, 9);
        x.close(0, 0);
        CHECKS.due("closed", x.stream(1, 0, 1), 0);
        x.pump(0);
        CHECKS.due("its end is on its way", x.stream(1, 0, 1), 0);
        x.deliver(0);
        CHECKS.due("it came", x.stream(1, 0, 1), 1);
        CHECKS.due("not where it was closed", x.stream(0, 0, 1), 0);
        CHECKS.due("not the other stream", x.stream(1, 1, 1), 0);
    }

    private static void openingAndEndAreToBeSent() {
        CHECKS.sentence("Behind open() its OPENING is to be sent, behind close() its END");
        StreamWires x = new StreamWires(1, 1, 5, 20, 9);
        CHECKS.dueStream("new", x, 0, 0, 0, 0, 0, 0, 0, 0, 0, 0);
        x.open(0, 0);
        CHECKS.dueStream("opened", x, 0, 0, 1, 0, 10, 0, 0, 0, 1, 0);
        x.close(0, 0);
        CHECKS.dueStream("closed", x, 0, 0, 2, 0, 10, 0, 0, 0, 1, 1);
        x.pump(0);
        CHECKS.dueStream("opening sent", x, 0, 0, 2, 0, 10, 0, 0, 0, 0, 1);
        x.pump(0);
        CHECKS.dueStream("end sent", x, 0, 0, 2, 0, 10, 0, 0, 0, 0, 0);
    }

    private static void creditAtFirst() {
        CHECKS.sentence("CREDIT is how many ITEMS of it a side may still send: R at first, for both");
        StreamWires x = Scenes.open(1, 16, 15, 8, 20);
        for (int side = 0; side < 2; side++) {
            CHECKS.due("at first", x.stream(side, 0, 2), 4);
            Scenes.sendWords(x, side, 0, 1, 2, 3, 4);
            x.pump(side);
            CHECKS.due("all of it is used", x.stream(side, 0, 2), 0);
            CHECKS.due("all were sent", x.stream(side, 0, 4), 0);
        }
        Scenes.settle(x);
        for (int side = 0; side < 2; side++) {
            x.send(side, 0, 5);
            CHECKS.due("nothing goes without it", x.pump(side), 0);
            CHECKS.due("it waits", x.stream(side, 0, 4), 1);
        }
    }

    private static void largestHead() {
        CHECKS.sentence("word 0 is KIND (bits 0 .. 2), STREAM (3 .. 7), NUMBER (8 .. 15), WANTED (16 .. 23), COUNT (24 .. 31)");
        StreamWires x = new StreamWires(8, 16, 15, 400, 20);
        for (int stream = 0; stream < 8; stream++) {
            x.open(0, stream);
        }
        Scenes.settle(x);
        for (int stream = 0; stream < 7; stream++) {
            x.close(0, stream);
            x.close(1, stream);
        }
        Scenes.settle(x);
        for (int i = 0; i < 8; i++) {
            x.send(1, 7, i);
            Scenes.settle(x);
        }
        for (int i = 0; i < 16; i++) {
            x.mark(0, 7);
        }
        CHECKS.due("pump", x.pump(0), 8);
        CHECKS.due("data of stream 7, number 15, wanted 15, 16 items", x.wire(0, 0, 0), 1 + 7 * 8 + 15 * 256 + 15 * 65536 + 16 * 16777216);
        CHECKS.due("it comes", x.deliver(0), 1);
        CHECKS.due("all lie there", x.stream(1, 7, 5), 16);
    }

    private static void marksBits() {
        CHECKS.sentence("of KIND 1, a word whose bit k tells that ITEM k is a MARK, and COUNT words (a MARK's is 0)");
        StreamWires x = Scenes.open(1, 16, 15, 400, 20);
        x.mark(0, 0);
        for (int i = 1; i < 15; i++) {
            x.send(0, 0, 100 + i);
        }
        x.mark(0, 0);
        x.pump(0);
        CHECKS.due("the first and the last one", x.wire(0, 0, 1), 1 + 32768);
        CHECKS.due("the first one's word", x.wire(0, 0, 2), 0);
        CHECKS.due("the second one's word", x.wire(0, 0, 3), 101);
        CHECKS.due("the last but one's word", x.wire(0, 0, 16), 114);
        CHECKS.due("the last one's word", x.wire(0, 0, 17), 0);
        Scenes.deliverAll(x, 0);
        for (int i = 0; i < 16; i++) {
            CHECKS.due("item " + i, x.receive(1, 0), i == 0 || i == 15 ? 2 : 1);
        }
        x.send(0, 0, 0);
        x.pump(0);
        CHECKS.due("a word of 0 is no mark", x.wire(0, 0, 1), 0);
    }

    private static void grantsWord() {
        CHECKS.sentence("of KIND 2 a word: how many");
        for (int items : new int[] {1, 15, 16}) {
            StreamWires x = Scenes.open(1, 16, 15, 32, 20);
            for (int i = 0; i < items; i++) {
                x.mark(0, 0);
            }
            Scenes.settle(x);
            for (int i = 0; i < items; i++) {
                x.receive(1, 0);
            }
            x.pump(1);
            CHECKS.dueFrame("grant of " + items, x, 1, 0, Craft.sealed(Craft.head(GRANT, 0, 0, 2, 0), items));
        }
    }

    private static void sumOfHalves() {
        CHECKS.sentence("first its higher 16 bits, then its lower ones: a becomes a and these, b becomes b and a");
        StreamWires x = Scenes.open(1, 1, 15, 400, 20);
        x.send(0, 0, 0x00050007);
        x.pump(0);
        // Halves 256, 257, 0, 0, 5, 7: a is 256, 513, 513, 513, 518, 525, and b is what these sum to.
        CHECKS.due("sum", x.wire(0, 0, 3), 65536 * (256 + 513 + 513 + 513 + 518 + 525) + 525);
        x = new StreamWires(1, 1, 1, 4, 1);
        x.open(0, 0);
        x.pump(0);
        CHECKS.due("sum of 3", x.wire(0, 0, 1), 65536 * 3 + 3);
    }

    private static void dueSum(String when, int word, int b, int a) {
        StreamWires x = Scenes.open(1, 1, 15, 400, 20);
        x.send(0, 0, word);
        x.pump(0);
        CHECKS.due("head", x.wire(0, 0, 0), 256 * 65536 + 257);
        CHECKS.due(when, x.wire(0, 0, 3), b << 16 | a);
        CHECKS.due(when + ": it comes", x.deliver(0), 1);
    }

    private static void sumModulo() {
        CHECKS.sentence("both modulo 65,535; the SUM is 65,536 b and a, in 32 bits");
        // Before the word a is 513 and b is 1,795.
        dueSum("a is just below", (65534 - 513) << 16, (1795 + 65534 + 65534) % 65535, 65534);
        dueSum("a becomes 0", (65535 - 513) << 16, 1795, 0);
        dueSum("a becomes 1", (65536 - 513) << 16, 1797, 1);
        dueSum("b is just below", 63226 << 16 | 65535 - 513 - 63226, 65534, 0);
        dueSum("b becomes 0", 63227 << 16, 63740, 63740);
        dueSum("all bits", -1, 1795 + 513 + 513, 513);
        dueSum("no bits", 0, 1795 + 513 + 513, 513);
    }

    private static void dueNumbers(int window) {
        StreamWires x = new StreamWires(1, 1, window, 400, 20);
        x.open(0, 0);
        for (int i = 0; i < 2 * window + 4; i++) {
            String when = "window " + window + ", frame " + i;
            x.send(0, 0, i);
            x.pump(0);
            CHECKS.due(when + ": its number", x.wire(0, 0, 0) >>> 8 & 255, i % (window + 1));
            CHECKS.due(when + ": taken", x.deliver(0), 1);
            CHECKS.due(when + ": the next one is waited for", x.side(1, 3), (i + 1) % (window + 1));
            x.pump(1);
            CHECKS.due(when + ": wanted", x.wire(1, 0, 0) >>> 16 & 255, (i + 1) % (window + 1));
            x.deliver(1);
            CHECKS.due(when + ": the next one is given", x.side(0, 2), (i + 1) % (window + 1));
            CHECKS.due(when + ": none is out", x.side(0, 1), 0);
        }
    }

    private static void numbersGoAround() {
        CHECKS.sentence("NUMBERS are 0 .. W (W being the WINDOW), one more than W is 0 again");
        dueNumbers(1);
        dueNumbers(2);
        dueNumbers(14);
        dueNumbers(15);
    }

    private static void numbersForEachWay() {
        CHECKS.sentence("Frames but ACKS have them, in order from 0 on, for each way");
        StreamWires x = new StreamWires(2, 1, 9, 40, 9);
        x.open(0, 0);
        x.open(0, 1);
        x.drain(0, 9);
        CHECKS.due("the first", x.wire(0, 0, 0), Craft.head(OPENING, 0, 0, 0, 0));
        CHECKS.due("the second", x.wire(0, 1, 0), Craft.head(OPENING, 1, 1, 0, 0));
        x.deliver(0);
        CHECKS.due("an ack", x.pump(1), 50);
        CHECKS.due("it has none", x.wire(1, 0, 0), Craft.head(ACK, 0, 0, 1, 0));
        x.deliver(0);
        CHECKS.due("an ack", x.pump(1), 50);
        x.send(1, 0, 5);
        x.pump(1);
        CHECKS.due("the first of the other way", x.wire(1, 2, 0), Craft.head(DATA, 0, 0, 2, 1));
        CHECKS.due("out", x.side(1, 1), 1);
    }

    private static void mostAreOut() {
        CHECKS.sentence("of each side at most W are OUT: sent, and not yet known to have come");
        for (int window : new int[] {1, 2, 15}) {
            StreamWires x = Scenes.open(1, 1, window, 400, 20);
            for (int i = 0; i < 17; i++) {
                x.send(0, 0, i);
            }
            CHECKS.due("as many", x.drain(0, 1000), window);
            CHECKS.due("out", x.side(0, 1), window);
            CHECKS.due("no more", x.pump(0), 0);
            CHECKS.due("lost", x.lose(0), true);
            CHECKS.due("no more, though one is lost", x.pump(0), 0);
            Scenes.deliverAll(x, 0);
            x.timeout(0);
            CHECKS.due("comes", x.deliver(0), 1);
            CHECKS.due("no more, though one came", x.pump(0), 0);
            x.drain(1, 9);
            Scenes.deliverAll(x, 1);
            CHECKS.due("out when one is known", x.side(0, 1), window - 1);
            CHECKS.due("one more", x.drain(0, 1000), 1);
            CHECKS.due("side 1 has its own", x.side(1, 1), 0);
        }
    }

    private static void wanted() {
        CHECKS.sentence("WANTED is the NUMBER that the sender waits for next");
        StreamWires x = Scenes.open(1, 1, 2, 40, 9);
        Scenes.sendWords(x, 0, 0, 1, 2);
        x.drain(0, 9);
        x.lose(0);
        x.deliver(0);
        x.pump(1);
        CHECKS.due("late: the same", x.wire(1, 0, 0), Craft.head(ACK, 0, 0, 1, 0));
        x.timeout(0);
        x.deliver(0);
        x.pump(1);
        CHECKS.due("taken: the next one", x.wire(1, 1, 0), Craft.head(ACK, 0, 0, 2, 0));
        x.deliver(0);
        x.send(1, 0, 9);
        x.pump(1);
        CHECKS.due("behind the last one 0", x.wire(1, 2, 0), Craft.head(DATA, 0, 0, 0, 1));
    }

    private static void wireHasRoom() {
        CHECKS.sentence("A wire has room for V frames");
        for (int room : new int[] {1, 2, 19, 20}) {
            StreamWires x = Scenes.open(1, 1, 15, 400, room);
            for (int i = 0; i < 15; i++) {
                x.send(0, 0, i);
            }
            CHECKS.due("the first ones", x.drain(0, 1000), Math.min(room, 15));
            CHECKS.due("the rest", x.timeout(0), Math.max(0, room - 15));
            CHECKS.due("frames", x.side(0, 4), room);
            CHECKS.due("the last one is there", x.wire(0, room - 1, 0) != 0, true);
            CHECKS.due("the other wire has its own", x.side(1, 4), 0);
        }
    }

    private static void behindTheOthers() {
        CHECKS.sentence("what is sent comes behind the others");
        StreamWires x = Scenes.open(1, 1, 15, 60, 3);
        for (int i = 0; i < 14; i++) {
            x.send(0, 0, i);
        }
        x.drain(0, 2);
        // A frame leaves in front for each one that comes behind, often enough for any ring to go around.
        for (int i = 0; i < 12; i++) {
            x.pump(0);
            for (int k = 0; k < 3; k++) {
                CHECKS.due("the word of frame " + k, x.wire(0, k, 2), i + k);
            }
            x.lose(0);
        }
        x.lose(0);
        CHECKS.due("timeout", x.timeout(0), 2);
        for (int k = 0; k < 3; k++) {
            CHECKS.due("what is sent once more is behind what is there", x.wire(0, k, 2), k == 0 ? 13 : k - 1);
        }
        x.deliver(0);
        x.deliver(0);
        x.deliver(0);
        CHECKS.due("an ack", x.pump(1), 50);
        x.send(1, 0, 5);
        CHECKS.due("data", x.pump(1), 1);
        CHECKS.due("the ack is in front", x.wire(1, 0, 0) & 7, ACK);
        CHECKS.due("the data is behind it", x.wire(1, 1, 0) & 7, DATA);
    }

    /** All sorts of frames wait at side 1, whose wire has room for one and holds one. */
    private static StreamWires wireIsFull() {
        StreamWires x = Scenes.open(4, 1, 9, 80, 1);
        Scenes.sendWords(x, 0, 0, 1, 2);
        Scenes.settle(x);
        x.open(1, 3);
        x.pump(1);
        x.receive(1, 0);
        x.send(1, 0, 3);
        x.open(1, 1);
        x.close(1, 1);
        x.send(0, 0, 4);
        x.pump(0);
        x.deliver(0);
        return x;
    }

    private static void noRoom() {
        CHECKS.sentence("with no room nothing is sent");
        StreamWires x = wireIsFull();
        CHECKS.due("full", x.side(1, 4), 1);
        CHECKS.due("an ack would come", x.side(1, 7), 1);
        int[] before = Scenes.look(x, 4);
        CHECKS.due("pump", x.pump(1), 0);
        CHECKS.due("drain", x.drain(1, 1000), 0);
        CHECKS.due("timeout", x.timeout(1), 0);
        CHECKS.dueSame("full", before, Scenes.look(x, 4));
        x.lose(1);
        CHECKS.due("room for one", x.drain(1, 1000), 1);
        CHECKS.due("the grant", x.wire(1, 0, 0) & 7, GRANT);
    }

    private static void manyCalls() {
        CHECKS.sentence("An object is used for at most 512 calls after it has been made");
        StreamWires x = new StreamWires(1, 1, 1, 4, 1);
        x.open(0, 0);
        x.pump(0);
        x.deliver(0);
        x.pump(1);
        x.deliver(1);
        for (int i = 0; i < 63; i++) {
            CHECKS.due("send", x.send(0, 0, i), 1);
            CHECKS.due("pump", x.pump(0), 1);
            CHECKS.due("deliver", x.deliver(0), 1);
            CHECKS.due("receive", x.receive(1, 0), 1);
            CHECKS.due("grant", x.pump(1), 1);
            CHECKS.due("it comes", x.deliver(1), 1);
            CHECKS.due("ack", x.pump(0), 50);
            CHECKS.due("it comes", x.deliver(0), 3);
        }
        CHECKS.due("call 510", x.stream(1, 0, 8), 63);
        CHECKS.due("call 511", x.word(1), 62);
        CHECKS.due("call 512", x.side(0, 8), 1 + 2 * 63);
    }
}
