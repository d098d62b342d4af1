/** The edges of PUMP: a test for each sentence and half sentence of its paragraph. */
public final class PumpEdgesTest {
    private static final Checks CHECKS = new Checks();
    private static final int ACK = Craft.ACK, DATA = Craft.DATA, GRANT = Craft.GRANT, OPENING = Craft.OPENING, END = Craft.END;

    public static void main(String[] args) {
        lessThanWindow();
        leastStreamIsGranted();
        allThatIsDue();
        grantsBeforeTheTurn();
        whoseTurnItIs();
        theNextOneInARing();
        turnAnew();
        nobodyHas();
        openingFirst();
        itemsAndCredit();
        firstItems();
        fewerItems();
        lessCredit();
        creditIsLess();
        endWithoutItems();
        turnIsOver();
        weightWhenTheTurnBegins();
        thenTheNextStreams();
        elseAnAck();
        ackNeedsRoom();
        takenOrLate();
        sinceTheLastFrame();
        CHECKS.end();
    }

    private static int kind(StreamWires x, int side, int i) {
        return x.wire(side, i, 0) & 7;
    }

    private static void duePumps(String when, StreamWires x, int side, int... want) {
        for (int i = 0; i < want.length; i++) {
            CHECKS.due(when + ": pump " + i, x.pump(side), want[i]);
        }
    }

    /** As many streams, all open at both sides, with no frame out; at side 0 the turn is stream 0's with 1 left. */
    private static StreamWires allOpen(int streams, int most, int window, int cells) {
        StreamWires x = new StreamWires(streams, most, window, cells, 20);
        for (int stream = 0; stream < streams; stream++) {
            x.open(0, stream);
        }
        Scenes.settle(x);
        CHECKS.due("the turn is the first one's", x.side(0, 5), 0);
        return x;
    }

    /** W is 1, and the frame of stream 3 is out of side 1: nothing numbered can go. */
    private static StreamWires windowIsFull() {
        StreamWires x = new StreamWires(4, 1, 1, 80, 9);
        x.open(0, 0);
        x.send(0, 0, 1);
        Scenes.settle(x);
        x.open(1, 3);
        x.pump(1);
        return x;
    }

    private static void dueWaits(String what, StreamWires x, int want) {
        int[] before = Scenes.look(x, 4);
        CHECKS.due(what + " waits", x.pump(1), 0);
        CHECKS.dueSame(what, before, Scenes.look(x, 4));
        Scenes.deliverAll(x, 1);
        x.pump(0);
        Scenes.deliverAll(x, 0);
        CHECKS.due(what + " goes when less are out", x.pump(1), want);
    }

    private static void lessThanWindow() {
        CHECKS.sentence("if less than W are OUT, and the wire has room");
        StreamWires x = windowIsFull();
        x.receive(1, 0);
        dueWaits("a grant", x, 1);
        x = windowIsFull();
        x.open(1, 2);
        dueWaits("an opening", x, 3);
        x = windowIsFull();
        x.send(1, 0, 5);
        dueWaits("data", x, 1);
        x = windowIsFull();
        x.close(1, 0);
        dueWaits("an end", x, 1);
    }

    private static void leastStreamIsGranted() {
        CHECKS.sentence("a GRANT of the least STREAM for which some CREDIT is DUE");
        StreamWires x = allOpen(8, 1, 15, 400);
        for (int stream : new int[] {7, 2, 5}) {
            x.send(0, stream, stream);
        }
        Scenes.settle(x);
        for (int stream : new int[] {7, 5, 2}) {
            CHECKS.due("receive", x.receive(1, stream), 1);
        }
        CHECKS.due("the least one", x.pump(1), 3);
        x.send(0, 0, 1);
        x.drain(0, 9);
        Scenes.deliverAll(x, 0);
        x.receive(1, 0);
        duePumps("one that came later, then the others", x, 1, 1, 6, 8, 0);
        for (int i = 0; i < 4; i++) {
            CHECKS.due("a grant", kind(x, 1, i), GRANT);
        }
    }

    private static void allThatIsDue() {
        CHECKS.sentence("(all that is; none is then)");
        StreamWires x = allOpen(1, 16, 15, 32);
        for (int i = 0; i < 16; i++) {
            x.send(0, 0, i);
        }
        Scenes.settle(x);
        for (int i = 0; i < 15; i++) {
            x.receive(1, 0);
        }
        CHECKS.due("due", x.stream(1, 0, 3), 15);
        x.pump(1);
        CHECKS.due("all is granted at once", x.wire(1, 0, 1), 15);
        CHECKS.due("none is due then", x.stream(1, 0, 3), 0);
        CHECKS.due("no second grant", x.pump(1), 0);
        x.receive(1, 0);
        CHECKS.due("due anew", x.stream(1, 0, 3), 1);
        x.pump(1);
        CHECKS.due("only what was not yet granted", x.wire(1, 1, 1), 1);
        Scenes.deliverAll(x, 1);
        CHECKS.due("all of the credit is back", x.stream(0, 0, 2), 16);
    }

    private static void grantsBeforeTheTurn() {
        CHECKS.sentence("the first of: a GRANT ..; what the STREAM whose TURN it is has to send");
        StreamWires x = allOpen(2, 1, 15, 40);
        x.send(0, 1, 1);
        Scenes.settle(x);
        x.receive(1, 1);
        x.send(1, 0, 2);
        CHECKS.due("the turn is stream 0's", x.side(1, 5), 0);
        duePumps("the grant of 1, then the data of 0", x, 1, 2, 1);
        CHECKS.due("grant", kind(x, 1, 0), GRANT);
        CHECKS.due("data", kind(x, 1, 1), DATA);
        x = allOpen(2, 1, 15, 40);
        x.send(0, 0, 1);
        Scenes.settle(x);
        x.receive(1, 0);
        x.pump(1);
        CHECKS.due("a grant is no frame of the turn", x.side(1, 5), 0);
        CHECKS.due("a grant is no frame of the turn", x.side(1, 6), 1);
    }

    private static void whoseTurnItIs() {
        CHECKS.sentence("what the STREAM whose TURN it is has to send");
        StreamWires x = allOpen(3, 1, 15, 60);
        x.send(0, 0, 1);
        x.pump(0);
        CHECKS.due("stream 1's", x.side(0, 5), 1);
        for (int stream = 0; stream < 3; stream++) {
            x.send(0, stream, 1);
        }
        CHECKS.due("not a lower one, nor a higher one", x.pump(0), 2);
    }

    private static void theNextOneInARing() {
        CHECKS.sentence("or else the next one that has (in a ring)");
        StreamWires x = allOpen(8, 1, 15, 400);
        x.send(0, 7, 1);
        CHECKS.due("from the first to the last", x.pump(0), 8);
        CHECKS.due("the first one's turn", x.side(0, 5), 0);
        x.send(0, 6, 1);
        x.pump(0);
        CHECKS.due("the last one's turn", x.side(0, 5), 7);
        x.send(0, 2, 1);
        x.send(0, 6, 1);
        CHECKS.due("from the last one around, over those that have nothing", x.pump(0), 3);
        CHECKS.due("the next one", x.pump(0), 7);
        x.send(0, 6, 1);
        CHECKS.due("all around, to the one before", x.pump(0), 7);
    }

    private static void turnAnew() {
        CHECKS.sentence("which has its TURN anew then");
        StreamWires x = allOpen(3, 1, 15, 120);
        x.weight(0, 0, 4);
        x.weight(0, 2, 3);
        for (int i = 0; i < 6; i++) {
            x.send(0, 2, i);
        }
        CHECKS.due("stream 2, whose turn it was not", x.pump(0), 3);
        CHECKS.due("now it is", x.side(0, 5), 2);
        CHECKS.due("two of three are left", x.side(0, 6), 2);
        duePumps("its turn", x, 0, 3, 3);
        CHECKS.due("the next one's", x.side(0, 5), 0);
        CHECKS.due("with its weight", x.side(0, 6), 4);
        CHECKS.due("which has nothing", x.pump(0), 3);
        CHECKS.due("anew", x.side(0, 6), 2);
        x.send(0, 0, 7);
        duePumps("the turn goes on", x, 0, 3, 3, 1);
        CHECKS.due("the other one had its turn from the beginning", x.side(0, 6), 3);
    }

    private static void nobodyHas() {
        CHECKS.sentence("or else the next one that has: none has");
        StreamWires x = allOpen(3, 1, 15, 60);
        x.weight(0, 1, 3);
        x.send(0, 1, 1);
        x.pump(0);
        CHECKS.due("nothing", x.pump(0), 0);
        CHECKS.due("the turn stays", x.side(0, 5), 1);
        CHECKS.due("so does what is left", x.side(0, 6), 2);
        x.send(0, 1, 1);
        x.pump(0);
        CHECKS.due("it goes on where it stood", x.side(0, 6), 1);
    }

    private static void openingFirst() {
        CHECKS.sentence("its OPENING; else DATA; else its END");
        StreamWires x = new StreamWires(1, 1, 15, 40, 20);
        x.open(0, 0);
        x.send(0, 0, 1);
        x.close(0, 0);
        CHECKS.due("three", x.drain(0, 9), 3);
        CHECKS.due("opening", kind(x, 0, 0), OPENING);
        CHECKS.due("data", kind(x, 0, 1), DATA);
        CHECKS.due("end", kind(x, 0, 2), END);
        x = new StreamWires(1, 1, 15, 40, 20);
        x.open(0, 0);
        x.close(0, 0);
        CHECKS.due("two", x.drain(0, 9), 2);
        CHECKS.due("opening", kind(x, 0, 0), OPENING);
        CHECKS.due("end", kind(x, 0, 1), END);
    }

    private static void itemsAndCredit() {
        CHECKS.sentence("DATA, if it has ITEMS and CREDIT");
        StreamWires x = allOpen(2, 16, 15, 8);
        CHECKS.due("credit, no items", x.pump(0), 0);
        Scenes.sendWords(x, 0, 0, 1, 2);
        Scenes.settle(x);
        CHECKS.due("no credit", x.stream(0, 0, 2), 0);
        x.send(0, 0, 3);
        CHECKS.due("items, no credit", x.pump(0), 0);
        x.send(0, 1, 4);
        CHECKS.due("the other one has both", x.pump(0), 2);
        x.receive(1, 0);
        x.pump(1);
        Scenes.deliverAll(x, 1);
        CHECKS.due("both", x.pump(0), 1);
    }

    private static void dueCount(String when, int most, int items, int want) {
        StreamWires x = allOpen(1, most, 15, 80);
        for (int i = 0; i < items; i++) {
            x.send(0, 0, 10 + i);
        }
        x.pump(0);
        CHECKS.due(when + ": count", x.wire(0, 0, 0) >>> 24, want);
        CHECKS.due(when + ": the first word", x.wire(0, 0, 2), 10);
        CHECKS.due(when + ": the last word", x.wire(0, 0, 1 + want), 9 + want);
        CHECKS.due(when + ": nothing behind the sum", x.wire(0, 0, 3 + want), 0);
        CHECKS.due(when + ": left", x.stream(0, 0, 4), items - want);
    }

    private static void firstItems() {
        CHECKS.sentence("the first m ITEMS");
        dueCount("m 1 of 1", 1, 1, 1);
        dueCount("m 1 of 2", 1, 2, 1);
        dueCount("m 3 of 3", 3, 3, 3);
        dueCount("m 3 of 4", 3, 4, 3);
        dueCount("m 16 of 16", 16, 16, 16);
        dueCount("m 16 of 40", 16, 40, 16);
    }

    private static void fewerItems() {
        CHECKS.sentence("fewer, if it has fewer");
        dueCount("m 2 of 1", 2, 1, 1);
        dueCount("m 16 of 1", 16, 1, 1);
        dueCount("m 16 of 15", 16, 15, 15);
    }

    private static void lessCredit() {
        CHECKS.sentence("fewer, if it has .. less CREDIT");
        for (int left = 1; left <= 4; left++) {
            StreamWires x = allOpen(1, 4, 15, 20);
            for (int i = left; i < 10; i++) {
                x.send(0, 0, i);
            }
            Scenes.settle(x);
            CHECKS.due("credit", x.stream(0, 0, 2), left);
            Scenes.sendWords(x, 0, 0, 1, 2, 3, 4, 5);
            CHECKS.due("pump", x.pump(0), 1);
            CHECKS.due("count", x.wire(0, 0, 0) >>> 24, left);
            CHECKS.due("items that wait", x.stream(0, 0, 4), 5 - left);
            CHECKS.due("no credit", x.stream(0, 0, 2), 0);
            CHECKS.due("there is room for them", x.deliver(0), 1);
        }
    }

    private static void creditIsLess() {
        CHECKS.sentence("(its CREDIT is less by these)");
        StreamWires x = allOpen(2, 3, 15, 40);
        Scenes.sendWords(x, 0, 1, 1, 2, 3, 4);
        CHECKS.due("not by what is to be sent", x.stream(0, 1, 2), 10);
        x.pump(0);
        CHECKS.due("by three", x.stream(0, 1, 2), 7);
        x.pump(0);
        CHECKS.due("by one", x.stream(0, 1, 2), 6);
        CHECKS.due("not the other one's", x.stream(0, 0, 2), 10);
        CHECKS.due("not at the other side", x.stream(1, 1, 2), 10);
        x.timeout(0);
        CHECKS.due("not by what is sent once more", x.stream(0, 1, 2), 6);
        x.close(0, 1);
        x.pump(0);
        CHECKS.due("not by an end", x.stream(0, 1, 2), 6);
    }

    private static void endWithoutItems() {
        CHECKS.sentence("else, with no ITEMS, its END");
        StreamWires x = allOpen(1, 16, 15, 8);
        Scenes.sendWords(x, 0, 0, 1, 2, 3, 4);
        Scenes.settle(x);
        x.send(0, 0, 5);
        x.close(0, 0);
        CHECKS.due("an item without credit: no end", x.pump(0), 0);
        CHECKS.due("it is still to be sent", x.stream(0, 0, 7), 1);
        x.receive(1, 0);
        x.pump(1);
        Scenes.deliverAll(x, 1);
        duePumps("the item, then the end, without credit", x, 0, 1, 1);
        CHECKS.due("data", kind(x, 0, 0), DATA);
        CHECKS.due("end", kind(x, 0, 1), END);
        CHECKS.due("no credit was there", x.stream(0, 0, 2), 0);
        CHECKS.due("it is sent once", x.pump(0), 0);
    }

    private static void turnIsOver() {
        CHECKS.sentence("A TURN is over behind as many frames as the STREAM's WEIGHT");
        for (int weight = 1; weight <= 4; weight++) {
            StreamWires x = new StreamWires(2, 1, 15, 400, 20);
            x.weight(0, 1, weight);
            for (int stream = 0; stream < 2; stream++) {
                x.open(0, stream);
                Scenes.sendWords(x, 0, stream, 1, 2, 3, 4, 5);
            }
            CHECKS.due("stream 0", x.pump(0), 1);
            for (int left = weight; left > 0; left--) {
                CHECKS.due("stream 1's turn", x.side(0, 5), 1);
                CHECKS.due("left", x.side(0, 6), left);
                CHECKS.due("any frame counts, its opening too", x.pump(0), 2);
            }
            CHECKS.due("it is over", x.side(0, 5), 0);
            CHECKS.due("stream 0", x.pump(0), 1);
        }
    }

    private static void weightWhenTheTurnBegins() {
        CHECKS.sentence("as it is when the TURN begins");
        StreamWires x = allOpen(2, 1, 15, 400);
        for (int i = 0; i < 9; i++) {
            x.send(0, 0, i);
            x.send(0, 1, i);
        }
        x.weight(0, 0, 3);
        CHECKS.due("heavier within its turn", x.side(0, 6), 1);
        duePumps("so its turn is over behind one", x, 0, 1, 2);
        CHECKS.due("its next turn has three", x.side(0, 6), 3);
        x.weight(0, 0, 1);
        CHECKS.due("lighter within its turn", x.side(0, 6), 3);
        duePumps("so it has three", x, 0, 1, 1, 1, 2);
        CHECKS.due("its next turn has one", x.side(0, 6), 1);
    }

    private static void thenTheNextStreams() {
        CHECKS.sentence("then it is the next STREAM's");
        StreamWires x = allOpen(3, 1, 15, 60);
        x.weight(0, 0, 2);
        x.send(0, 1, 1);
        x.pump(0);
        CHECKS.due("the next one's, though it has nothing", x.side(0, 5), 2);
        x.send(0, 2, 1);
        x.pump(0);
        CHECKS.due("behind the last one the first one's", x.side(0, 5), 0);
        CHECKS.due("with its weight", x.side(0, 6), 2);
        StreamWires fresh = new StreamWires(2, 1, 15, 60, 20);
        fresh.open(0, 0);
        fresh.pump(0);
        CHECKS.due("the next one's, though it is new", fresh.side(0, 5), 1);
        StreamWires alone = new StreamWires(1, 1, 15, 60, 20);
        alone.weight(0, 0, 4);
        alone.open(0, 0);
        alone.pump(0);
        CHECKS.due("the only one is its own next one", alone.side(0, 5), 0);
        CHECKS.due("with its weight", alone.side(0, 6), 4);
    }

    private static void elseAnAck() {
        CHECKS.sentence("Else, .. an ACK");
        StreamWires x = Scenes.data(1);
        x.deliver(0);
        x.send(1, 0, 5);
        duePumps("data first, which tells what is wanted: no ack then", x, 1, 1, 0);
        x = Scenes.data(1);
        x.deliver(0);
        duePumps("nothing else: an ack, once", x, 1, 50, 0);
        CHECKS.dueFrame("it", x, 1, 0, Craft.sealed(Craft.head(ACK, 0, 0, 2, 0)));
        StreamWires full = windowIsFull();
        full.send(0, 0, 2);
        full.pump(0);
        CHECKS.due("taken", full.deliver(0), 1);
        full.receive(1, 0);
        duePumps("the window is full: an ack all the same", full, 1, 50, 0);
        CHECKS.due("it is not out", full.side(1, 1), 1);
    }

    private static void ackNeedsRoom() {
        CHECKS.sentence("if the wire has room, .. an ACK");
        StreamWires x = Scenes.open(1, 1, 3, 20, 1);
        x.send(1, 0, 1);
        x.pump(1);
        x.send(0, 0, 1);
        x.pump(0);
        CHECKS.due("taken", x.deliver(0), 1);
        CHECKS.due("no room", x.pump(1), 0);
        CHECKS.due("it would come", x.side(1, 7), 1);
        x.lose(1);
        CHECKS.due("room", x.pump(1), 50);
    }

    private static void takenOrLate() {
        CHECKS.sentence("a frame that was TAKEN or LATE here came");
        StreamWires x = Scenes.data(1);
        CHECKS.due("none came", x.pump(1), 0);
        x.deliver(0);
        CHECKS.due("taken", x.pump(1), 50);
        x.timeout(0);
        CHECKS.due("late", x.deliver(0), 4);
        CHECKS.due("late", x.pump(1), 50);
        x.timeout(0);
        x.corrupt(0, 1, 1);
        CHECKS.due("spoilt", x.deliver(0), 2);
        CHECKS.due("spoilt", x.pump(1), 0);
        CHECKS.due("an ack", x.deliver(1), 3);
        CHECKS.due("an ack", x.pump(0), 0);
        x = Scenes.data(1);
        x.lose(0);
        CHECKS.due("lost", x.pump(1), 0);
        x = Scenes.data(1);
        Craft.forge(x, 0, Craft.head(DATA, 1, 1, 0, 1), 0, 1);
        CHECKS.due("refused", x.deliver(0), 2);
        CHECKS.due("refused", x.pump(1), 0);
    }

    private static void sinceTheLastFrame() {
        CHECKS.sentence("since this side sent its last frame (of any sort)");
        StreamWires x = Scenes.data(1);
        x.deliver(0);
        x.receive(1, 0);
        CHECKS.due("a grant", x.pump(1), 1);
        CHECKS.due("none behind it", x.pump(1), 0);
        x.timeout(0);
        x.deliver(0);
        CHECKS.due("one came since", x.side(1, 7), 1);
        CHECKS.due("a timeout", x.timeout(1), 1);
        CHECKS.due("none behind it", x.pump(1), 0);
        x.timeout(0);
        x.deliver(0);
        CHECKS.due("an ack", x.pump(1), 50);
        CHECKS.due("none behind it", x.pump(1), 0);
        x.timeout(0);
        x.deliver(0);
        x.open(1, 2);
        CHECKS.due("an opening", x.pump(1), 3);
        CHECKS.due("none behind it", x.pump(1), 0);
        x.timeout(0);
        x.deliver(0);
        x.close(1, 0);
        CHECKS.due("an end", x.pump(1), 1);
        CHECKS.due("none behind it", x.pump(1), 0);
    }
}
