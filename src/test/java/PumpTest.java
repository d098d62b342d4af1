/** Promises 8 to 10: weight, pump, drain. */
public final class PumpTest {
    private static final Checks CHECKS = new Checks();

    public static void main(String[] args) {
        wrongInputs();
        weights();
        weightCountsFromTheTurnsBegin();
        turnGoesOnInARing();
        turnMovesAnew();
        turnStaysWithNothingToSend();
        turnHasItsRestBehindAPause();
        grantsGoFirst();
        grantsTakeNoTurn();
        framesOfEachKind();
        dataIsCutByMostItemsAndCredit();
        endWaitsForItems();
        windowAndWire();
        acks();
        drains();
        CHECKS.end();
    }

    private static StreamWires filled(int streams, int most, int window, int items) {
        StreamWires x = new StreamWires(streams, most, window, 400, 20);
        for (int stream = 0; stream < streams; stream++) {
            x.open(0, stream);
            for (int i = 0; i < items; i++) {
                x.send(0, stream, 100 * stream + i);
            }
        }
        return x;
    }

    private static void duePumps(String when, StreamWires x, int side, int... want) {
        for (int i = 0; i < want.length; i++) {
            CHECKS.due(when + ": pump " + i, x.pump(side), want[i]);
        }
    }

    private static void wrongInputs() {
        StreamWires x = filled(2, 2, 5, 3);
        CHECKS.due("weight", x.weight(2, 0, 1), StreamWires.BAD);
        CHECKS.due("weight", x.weight(-1, 0, 1), StreamWires.BAD);
        CHECKS.due("weight", x.weight(0, 2, 1), StreamWires.BAD);
        CHECKS.due("weight", x.weight(0, -1, 1), StreamWires.BAD);
        for (int w : new int[] {0, 5, -1, Integer.MIN_VALUE, Integer.MAX_VALUE}) {
            CHECKS.due("weight " + w, x.weight(0, 0, w), StreamWires.BAD);
        }
        CHECKS.due("no weight was changed", x.weight(0, 0, 1), 1);
        for (int side : new int[] {-1, 2, Integer.MIN_VALUE}) {
            CHECKS.due("pump", x.pump(side), StreamWires.BAD);
            CHECKS.due("drain", x.drain(side, 1), StreamWires.BAD);
        }
        CHECKS.due("drain", x.drain(0, -1), StreamWires.BAD);
        CHECKS.due("drain", x.drain(0, 1001), StreamWires.BAD);
        CHECKS.due("nothing was sent", x.side(0, 8), 0);
    }

    private static void weights() {
        StreamWires x = new StreamWires(2, 2, 5, 20, 5);
        CHECKS.due("of a new stream", x.weight(0, 1, 4), 1);
        CHECKS.due("it was", x.weight(0, 1, 2), 4);
        CHECKS.due("it was", x.weight(0, 1, 2), 2);
        CHECKS.due("of the other stream", x.weight(0, 0, 3), 1);
        CHECKS.due("at the other side", x.weight(1, 1, 3), 1);
    }

    private static void weightCountsFromTheTurnsBegin() {
        StreamWires x = filled(2, 1, 15, 9);
        x.weight(0, 0, 3);
        CHECKS.due("the first turn began before", x.side(0, 6), 1);
        duePumps("weight 3 comes later", x, 0, 1, 2, 1);
        CHECKS.due("two left", x.side(0, 6), 2);
        x.weight(0, 0, 1);
        CHECKS.due("still two left", x.side(0, 6), 2);
        duePumps("the turn goes on", x, 0, 1, 1);
        CHECKS.due("stream 1's", x.side(0, 5), 1);
        x.weight(0, 1, 4);
        CHECKS.due("its turn began with 1", x.side(0, 6), 1);
        duePumps("one each, then four", x, 0, 2, 1, 2, 2, 2, 2, 1);
    }

    private static void turnGoesOnInARing() {
        StreamWires x = filled(3, 1, 15, 9);
        x.weight(0, 2, 2);
        duePumps("ring", x, 0, 1, 2, 3, 3, 1, 2, 3, 3, 1);
        CHECKS.due("stream", x.side(0, 5), 1);
        CHECKS.due("left", x.side(0, 6), 1);
    }

    private static void turnMovesAnew() {
        StreamWires x = new StreamWires(4, 1, 15, 80, 20);
        x.weight(0, 3, 3);
        x.open(0, 3);
        CHECKS.due("the next one that has", x.pump(0), 4);
        CHECKS.due("its turn", x.side(0, 5), 3);
        CHECKS.due("two left of three", x.side(0, 6), 2);
        x.open(0, 1);
        CHECKS.due("the ring goes around", x.pump(0), 2);
        CHECKS.due("the turn of the next one, though it has nothing", x.side(0, 5), 2);
        x.send(0, 3, 1);
        CHECKS.due("stream 3", x.pump(0), 4);
        CHECKS.due("its turn anew", x.side(0, 6), 2);
    }

    private static void turnStaysWithNothingToSend() {
        StreamWires x = new StreamWires(3, 1, 15, 80, 20);
        CHECKS.due("nothing", x.pump(0), 0);
        CHECKS.due("turn", x.side(0, 5), 0);
        x.open(0, 0);
        CHECKS.due("opening", x.pump(0), 1);
        CHECKS.due("turn", x.side(0, 5), 1);
        CHECKS.due("nothing", x.drain(0, 5), 0);
        CHECKS.due("turn", x.side(0, 5), 1);
        StreamWires alone = filled(1, 1, 15, 5);
        alone.weight(0, 0, 2);
        alone.pump(0);
        CHECKS.due("the only one's turn begins anew", alone.side(0, 6), 2);
        alone.pump(0);
        CHECKS.due("the only one's turn", alone.side(0, 6), 1);
        CHECKS.due("the only one", alone.side(0, 5), 0);
    }

    private static void turnHasItsRestBehindAPause() {
        StreamWires x = new StreamWires(2, 1, 15, 80, 20);
        x.weight(0, 1, 3);
        x.open(0, 1);
        x.pump(0);
        CHECKS.due("two left", x.side(0, 6), 2);
        CHECKS.due("nothing", x.pump(0), 0);
        x.send(0, 1, 5);
        CHECKS.due("its turn goes on", x.pump(0), 2);
        CHECKS.due("one left", x.side(0, 6), 1);
    }

    /** Both streams have words at side 1, of which some are taken, and both have words to send back. */
    private static StreamWires withDue() {
        StreamWires x = filled(2, 4, 15, 4);
        for (int left = x.drain(0, 15); left > 0; left--) {
            x.deliver(0);
        }
        for (int stream = 0; stream < 2; stream++) {
            x.send(1, stream, 7);
            x.receive(1, stream);
            x.receive(1, stream);
        }
        return x;
    }

    private static void grantsGoFirst() {
        StreamWires x = withDue();
        duePumps("grants, then data", x, 1, 1, 2, 1, 2, 0);
        CHECKS.dueFrame("grant 0", x, 1, 0, Craft.sealed(Craft.head(Craft.GRANT, 0, 0, 4, 0), 2));
        CHECKS.dueFrame("grant 1", x, 1, 1, Craft.sealed(Craft.head(Craft.GRANT, 1, 1, 4, 0), 2));
        CHECKS.dueFrame("data 0", x, 1, 2, Craft.sealed(Craft.head(Craft.DATA, 0, 2, 4, 1), 0, 7));
        CHECKS.due("none is due", x.stream(1, 0, 3), 0);
        CHECKS.due("none is due", x.stream(1, 1, 3), 0);
        CHECKS.due("credit before the grant", x.stream(0, 0, 2), 96);
        x.deliver(1);
        CHECKS.due("credit behind the grant", x.stream(0, 0, 2), 98);
        CHECKS.due("of its stream alone", x.stream(0, 1, 2), 96);
    }

    private static void grantsTakeNoTurn() {
        StreamWires x = withDue();
        x.pump(1);
        x.pump(1);
        CHECKS.due("turn", x.side(1, 5), 0);
        CHECKS.due("left", x.side(1, 6), 1);
    }

    private static void framesOfEachKind() {
        StreamWires x = new StreamWires(8, 16, 15, 400, 20);
        x.open(0, 7);
        int[] data = new int[18];
        data[0] = Craft.head(Craft.DATA, 7, 1, 0, 16);
        for (int i = 0; i < 16; i++) {
            if (i % 5 == 0) {
                x.mark(0, 7);
                data[1] |= 1 << i;
            } else {
                data[2 + i] = -65536 * i - 1;
                x.send(0, 7, data[2 + i]);
            }
        }
        x.close(0, 7);
        duePumps("opening, data, end", x, 0, 8, 8, 8, 0);
        CHECKS.dueFrame("opening", x, 0, 0, Craft.sealed(Craft.head(Craft.OPENING, 7, 0, 0, 0)));
        CHECKS.dueFrame("data", x, 0, 1, Craft.sealed(data));
        CHECKS.dueFrame("end", x, 0, 2, Craft.sealed(Craft.head(Craft.END, 7, 2, 0, 0)));
        CHECKS.due("a known sum", x.wire(0, 0, 1), 65536 * 59 + 59);
    }

    private static void dataIsCutByMostItemsAndCredit() {
        StreamWires x = new StreamWires(1, 3, 15, 10, 20);
        x.open(0, 0);
        for (int i = 0; i < 5; i++) {
            CHECKS.due("send", x.send(0, 0, i), 1);
        }
        x.pump(0);
        x.pump(0);
        CHECKS.dueFrame("three, the most", x, 0, 1, Craft.sealed(Craft.head(Craft.DATA, 0, 1, 0, 3), 0, 0, 1, 2));
        CHECKS.dueStream("behind three", x, 0, 0, 1, 0, 2, 0, 2, 0);
        x.deliver(0);
        x.deliver(0);
        x.pump(1);
        x.deliver(1);
        CHECKS.due("one more", x.send(0, 0, 5), 1);
        x.pump(0);
        CHECKS.dueFrame("two, the credit", x, 0, 0, Craft.sealed(Craft.head(Craft.DATA, 0, 2, 0, 2), 0, 3, 4));
        CHECKS.dueStream("no credit", x, 0, 0, 1, 0, 0, 0, 1, 0);
        CHECKS.due("an item, but no credit", x.pump(0), 0);
        x.deliver(0);
        x.receive(1, 0);
        duePumps("grant", x, 1, 1);
        CHECKS.due("grant comes", x.deliver(1), 1);
        duePumps("the last one", x, 0, 1, 0);
        CHECKS.dueFrame("one, the items", x, 0, 0, Craft.sealed(Craft.head(Craft.DATA, 0, 3, 1, 1), 0, 5));
    }

    private static void endWaitsForItems() {
        StreamWires x = new StreamWires(1, 4, 15, 8, 20);
        x.open(0, 0);
        for (int i = 0; i < 4; i++) {
            x.send(0, 0, i);
        }
        x.drain(0, 2);
        x.deliver(0);
        x.deliver(0);
        x.pump(1);
        x.deliver(1);
        x.send(0, 0, 4);
        x.close(0, 0);
        CHECKS.due("an item without credit, no end", x.pump(0), 0);
        CHECKS.due("end is to be sent", x.stream(0, 0, 7), 1);
        x.receive(1, 0);
        x.pump(1);
        x.deliver(1);
        duePumps("data, end", x, 0, 1, 1, 0);
        CHECKS.due("end without credit", x.wire(0, 1, 0), Craft.head(Craft.END, 0, 3, 1, 0));
        CHECKS.dueStream("ended", x, 0, 0, 2, 0, 0, 0, 0, 0, 0, 0);
    }

    private static void windowAndWire() {
        StreamWires narrow = filled(1, 1, 2, 9);
        duePumps("window 2", narrow, 0, 1, 1, 0);
        narrow.lose(0);
        narrow.lose(0);
        duePumps("lost, but out", narrow, 0, 0);
        StreamWires shortWire = new StreamWires(1, 1, 9, 40, 2);
        shortWire.open(0, 0);
        shortWire.send(0, 0, 1);
        shortWire.send(0, 0, 2);
        duePumps("wire of 2", shortWire, 0, 1, 1, 0);
        CHECKS.due("an item waits", shortWire.stream(0, 0, 4), 1);
        shortWire.lose(0);
        duePumps("room again", shortWire, 0, 1);
        CHECKS.due("behind the other", shortWire.wire(0, 1, 0), Craft.head(Craft.DATA, 0, 2, 0, 1));
    }

    private static void acks() {
        StreamWires x = filled(1, 1, 3, 9);
        duePumps("nothing came", x, 1, 0);
        x.drain(0, 9);
        x.deliver(0);
        CHECKS.due("owes", x.side(1, 7), 1);
        duePumps("once", x, 1, 50, 0);
        CHECKS.dueFrame("ack", x, 1, 0, Craft.sealed(Craft.head(Craft.ACK, 0, 0, 1, 0)));
        CHECKS.due("an ack is not out", x.side(1, 1), 0);
        CHECKS.due("an ack comes", x.deliver(1), 3);
        duePumps("no ack of an ack", x, 0, 1, 0);
        x.lose(0);
        CHECKS.due("late", x.deliver(0), 4);
        duePumps("late: an ack", x, 1, 50, 0);
        x.corrupt(0, 0, 1);
        CHECKS.due("spoilt", x.deliver(0), 2);
        duePumps("spoilt: none", x, 1, 0);
        x.timeout(0);
        x.deliver(0);
        x.send(1, 0, 5);
        duePumps("any frame tells it", x, 1, 1, 0);
        acksBehindAFullWindow();
        acksNeedRoom();
        timeoutTellsIt();
    }

    private static void acksBehindAFullWindow() {
        StreamWires x = filled(1, 1, 1, 9);
        x.open(1, 0);
        duePumps("opening", x, 1, 1, 0);
        x.pump(0);
        x.deliver(0);
        duePumps("out is full, an ack goes", x, 1, 50, 0);
    }

    private static void acksNeedRoom() {
        StreamWires x = new StreamWires(1, 1, 3, 20, 1);
        x.open(0, 0);
        x.open(1, 0);
        x.pump(1);
        x.pump(0);
        x.deliver(0);
        CHECKS.due("owes", x.side(1, 7), 1);
        duePumps("no room", x, 1, 0);
        CHECKS.due("still owes", x.side(1, 7), 1);
        x.lose(1);
        duePumps("room", x, 1, 50);
    }

    private static void timeoutTellsIt() {
        StreamWires x = new StreamWires(1, 1, 3, 20, 1);
        x.open(0, 0);
        x.open(1, 0);
        x.pump(1);
        x.pump(0);
        x.deliver(0);
        CHECKS.due("no room", x.timeout(1), 0);
        CHECKS.due("nothing was sent", x.side(1, 7), 1);
        x.lose(1);
        CHECKS.due("sent", x.timeout(1), 1);
        CHECKS.due("told", x.side(1, 7), 0);
    }

    private static void drains() {
        StreamWires x = filled(1, 1, 15, 9);
        CHECKS.due("none", x.drain(0, 0), 0);
        CHECKS.due("nothing sent", x.side(0, 8), 0);
        CHECKS.due("four", x.drain(0, 4), 4);
        CHECKS.due("sent", x.side(0, 8), 4);
        CHECKS.due("the rest", x.drain(0, 1000), 6);
        x.deliver(0);
        CHECKS.due("an ack counts", x.drain(1, 1000), 1);
        CHECKS.due("nothing", x.drain(1, 1000), 0);
    }
}
