/** Promises 2 to 5: open, send, mark, close, on the side that calls them. */
public final class FillingTest {
    private static final Checks CHECKS = new Checks();
    private static final int[] NO_SIDES = {-1, 2, 3, Integer.MIN_VALUE, Integer.MAX_VALUE};
    private static final int[] NO_STREAMS = {-1, 3, 31, Integer.MIN_VALUE, Integer.MAX_VALUE};

    public static void main(String[] args) {
        wrongSidesAndStreams();
        openOnce();
        openWithoutFreeCells();
        sendNeedsOpen();
        cellsRunOut();
        cellsComeBackWhenItIsKnown();
        closeOnce();
        closedBeforeItsOpeningIsSent();
        cellsServeAgain();
        allCellsAtOnce();
        moreLiesThanThereAreCells();
        CHECKS.end();
    }

    private static void wrongSidesAndStreams() {
        StreamWires x = new StreamWires(3, 2, 3, 60, 4);
        for (int side : NO_SIDES) {
            wrong(x, side, 0);
        }
        for (int stream : NO_STREAMS) {
            wrong(x, 0, stream);
            wrong(x, 1, stream);
        }
        for (int side = 0; side < 2; side++) {
            CHECKS.dueSide("untouched", x, side, 60, 0, 0, 0, 0, 0, 1, 0, 0, 0, 0, 0);
        }
    }

    private static void wrong(StreamWires x, int side, int stream) {
        String where = "(" + side + ", " + stream + ")";
        CHECKS.due("open" + where, x.open(side, stream), StreamWires.BAD);
        CHECKS.due("send" + where, x.send(side, stream, 1), StreamWires.BAD);
        CHECKS.due("mark" + where, x.mark(side, stream), StreamWires.BAD);
        CHECKS.due("close" + where, x.close(side, stream), StreamWires.BAD);
    }

    private static void openOnce() {
        StreamWires x = new StreamWires(2, 2, 3, 20, 4);
        CHECKS.due("open", x.open(0, 1), 1);
        CHECKS.due("open again", x.open(0, 1), 0);
        CHECKS.dueStream("opened", x, 0, 1, 1, 0, 5, 0, 0, 0, 1, 0, 0, 0);
        CHECKS.dueStream("the other one", x, 0, 0, 0, 0, 0, 0, 0, 0, 0, 0, 0, 0);
        CHECKS.dueStream("the other side", x, 1, 1, 0, 0, 0, 0, 0, 0, 0, 0, 0, 0);
        CHECKS.due("open there", x.open(1, 1), 1);
        CHECKS.due("close", x.close(0, 1), 1);
        CHECKS.due("open behind close", x.open(0, 1), 0);
        CHECKS.due("open of one that came", openedByTheOther(), 0);
    }

    private static int openedByTheOther() {
        StreamWires x = new StreamWires(1, 1, 1, 4, 1);
        x.open(0, 0);
        x.pump(0);
        x.deliver(0);
        return x.open(1, 0);
    }

    private static void openWithoutFreeCells() {
        StreamWires x = new StreamWires(8, 2, 3, 4, 4);
        for (int stream = 0; stream < 8; stream++) {
            CHECKS.due("open " + stream, x.open(0, stream), 1);
            CHECKS.due("free behind " + stream, x.side(0, 0), Math.max(0, 3 - stream));
        }
        CHECKS.due("send without a free cell", x.send(0, 0, 1), 2);
        CHECKS.due("mark without a free cell", x.mark(0, 0), 2);
        CHECKS.due("nothing to be sent", x.stream(0, 0, 4), 0);
        CHECKS.due("close without a free cell", x.close(0, 0), 1);
        CHECKS.due("send behind close, without a free cell", x.send(0, 0, 1), 0);
    }

    private static void sendNeedsOpen() {
        StreamWires x = new StreamWires(2, 2, 3, 20, 4);
        CHECKS.due("send to a new one", x.send(0, 0, 1), 0);
        CHECKS.due("mark to a new one", x.mark(0, 0), 0);
        x.open(0, 0);
        CHECKS.due("send there", x.send(1, 0, 1), 0);
        CHECKS.due("send", x.send(0, 0, Integer.MIN_VALUE), 1);
        CHECKS.due("mark", x.mark(0, 0), 1);
        CHECKS.due("items", x.stream(0, 0, 4), 2);
        CHECKS.due("free", x.side(0, 0), 13);
        x.close(0, 0);
        CHECKS.due("send behind close", x.send(0, 0, 1), 0);
        CHECKS.due("mark behind close", x.mark(0, 0), 0);
        CHECKS.due("items behind close", x.stream(0, 0, 4), 2);
    }

    private static void cellsRunOut() {
        StreamWires x = new StreamWires(2, 2, 3, 20, 4);
        x.open(1, 0);
        x.open(1, 1);
        for (int i = 0; i < 5; i++) {
            CHECKS.due("send " + i, x.send(1, 0, i), 1);
            CHECKS.due("mark " + i, x.mark(1, 1), 1);
            CHECKS.due("free", x.side(1, 0), 8 - 2 * i);
        }
        CHECKS.due("send", x.send(1, 0, 9), 2);
        CHECKS.due("mark", x.mark(1, 1), 2);
        CHECKS.dueStream("full", x, 1, 0, 1, 0, 5, 0, 5, 0, 1, 0);
        CHECKS.dueStream("full", x, 1, 1, 1, 0, 5, 0, 5, 0, 1, 0);
    }

    private static void cellsComeBackWhenItIsKnown() {
        StreamWires x = new StreamWires(1, 2, 3, 4, 4);
        x.open(0, 0);
        x.send(0, 0, 1);
        x.mark(0, 0);
        CHECKS.due("drain", x.drain(0, 9), 2);
        CHECKS.due("sent, not known", x.send(0, 0, 3), 2);
        x.deliver(0);
        x.deliver(0);
        CHECKS.due("come, not known", x.mark(0, 0), 2);
        CHECKS.due("ack", x.pump(1), 50);
        CHECKS.due("ack comes", x.deliver(1), 3);
        CHECKS.due("free", x.side(0, 0), 2);
        CHECKS.due("send", x.send(0, 0, 3), 1);
        CHECKS.due("what lies there needs no free cell", x.side(1, 0), 2);
    }

    private static void closeOnce() {
        StreamWires x = new StreamWires(2, 2, 3, 20, 4);
        CHECKS.due("close of a new one", x.close(0, 0), 0);
        CHECKS.due("still new", x.stream(0, 0, 0), 0);
        x.open(0, 0);
        CHECKS.due("close there", x.close(1, 0), 0);
        CHECKS.due("close", x.close(0, 0), 1);
        CHECKS.due("close again", x.close(0, 0), 0);
        CHECKS.dueStream("closed", x, 0, 0, 2, 0, 5, 0, 0, 0, 1, 1, 0, 0);
        CHECKS.due("its cells are still kept", x.side(0, 0), 15);
    }

    private static void closedBeforeItsOpeningIsSent() {
        StreamWires x = new StreamWires(1, 1, 9, 20, 9);
        x.open(0, 0);
        x.send(0, 0, 77);
        x.close(0, 0);
        CHECKS.due("all", x.drain(0, 9), 3);
        CHECKS.dueFrame("opening", x, 0, 0, Craft.sealed(Craft.head(Craft.OPENING, 0, 0, 0, 0)));
        CHECKS.dueFrame("data", x, 0, 1, Craft.sealed(Craft.head(Craft.DATA, 0, 1, 0, 1), 0, 77));
        CHECKS.dueFrame("end", x, 0, 2, Craft.sealed(Craft.head(Craft.END, 0, 2, 0, 0)));
        CHECKS.dueStream("all sent", x, 0, 0, 2, 0, 9, 0, 0, 0, 0, 0, 0, 0);
    }

    private static void cellsServeAgain() {
        StreamWires x = new StreamWires(1, 2, 3, 4, 4);
        x.open(0, 0);
        for (int i = 0; i < 50; i++) {
            CHECKS.due("send " + i, x.send(0, 0, i), 1);
            x.drain(0, 9);
            x.deliver(0);
            x.deliver(0);
            CHECKS.due("receive " + i, x.receive(1, 0), 1);
            CHECKS.due("word " + i, x.word(1), i);
            x.drain(1, 9);
            CHECKS.due("grant " + i, x.deliver(1), 1);
            CHECKS.due("free " + i, x.side(0, 0), 2);
        }
    }

    /** At side 0 all cells hold what is to be sent or what came, and each item is still the one that it was. */
    private static void allCellsAtOnce() {
        StreamWires x = new StreamWires(2, 5, 9, 20, 9);
        for (int stream = 0; stream < 2; stream++) {
            x.open(1, stream);
            for (int i = 0; i < 5; i++) {
                x.send(1, stream, 10 * stream + i);
            }
        }
        CHECKS.due("all", x.drain(1, 9), 4);
        for (int i = 0; i < 4; i++) {
            CHECKS.due("taken", x.deliver(1), 1);
        }
        for (int i = 0; i < 10; i++) {
            CHECKS.due("send", x.send(0, i % 2, 100 + i), 1);
        }
        CHECKS.due("no cell", x.send(0, 0, 1), 2);
        for (int i = 0; i < 10; i++) {
            CHECKS.due("receive", x.receive(0, i / 5), 1);
            CHECKS.due("word", x.word(0), 10 * (i / 5) + i % 5);
        }
        CHECKS.due("grants", x.drain(0, 2), 2);
        CHECKS.due("data", x.drain(0, 9), 2);
        CHECKS.dueFrame("stream 0", x, 0, 2, Craft.sealed(Craft.head(Craft.DATA, 0, 2, 4, 5), 0, 100, 102, 104, 106, 108));
        CHECKS.dueFrame("stream 1", x, 0, 3, Craft.sealed(Craft.head(Craft.DATA, 1, 3, 4, 5), 0, 101, 103, 105, 107, 109));
    }

    /** With few cells one is kept for each stream all the same; what comes in most of them is forged. */
    private static void moreLiesThanThereAreCells() {
        StreamWires x = new StreamWires(8, 1, 15, 4, 20);
        x.open(1, 0);
        x.send(1, 0, 200);
        x.drain(1, 9);
        x.deliver(1);
        CHECKS.due("data of 0", x.deliver(1), 1);
        for (int i = 0; i < 3; i++) {
            CHECKS.due("send", x.send(0, 0, 50 + i), 1);
        }
        for (int stream = 1; stream < 8; stream++) {
            x.open(0, stream);
            x.timeout(1);
            x.lose(1);
            Craft.forge(x, 1, Craft.head(Craft.DATA, stream, x.side(0, 3), 0, 1), 0, 200 + stream);
            CHECKS.due("data of " + stream, x.deliver(1), 1);
        }
        for (int stream = 0; stream < 8; stream++) {
            CHECKS.due("receive of " + stream, x.receive(0, stream), 1);
            CHECKS.due("word of " + stream, x.word(0), 200 + stream);
        }
        CHECKS.due("grants", x.drain(0, 8), 8);
        CHECKS.due("data", x.pump(0), 1);
        CHECKS.due("the first word", x.wire(0, 8, 2), 50);
        CHECKS.due("the others wait", x.stream(0, 0, 4), 2);
    }
}
