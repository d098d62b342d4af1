/** Promise 11: deliver, with frames that nobody sends made by corrupt(). */
public final class DeliverTest {
    private static final Checks CHECKS = new Checks();
    private static final int ACK = Craft.ACK, DATA = Craft.DATA, GRANT = Craft.GRANT, OPENING = Craft.OPENING, END = Craft.END;

    public static void main(String[] args) {
        wrongSides();
        takenOfEachKind();
        spoiltBySum();
        spoiltByHead();
        spoiltByMarks();
        spoiltByGrant();
        spoiltDoesNothingElse();
        wantedTells();
        wantedOfLateAndRefusedFrames();
        lateHasAnotherNumber();
        numbersGoAround();
        refusedOfNewAndShut();
        refusedForRoom();
        refusedGrants();
        refusedOpenings();
        bothOpen();
        CHECKS.end();
    }

    private static void wrongSides() {
        StreamWires x = opened();
        for (int side : new int[] {-1, 2, Integer.MIN_VALUE, Integer.MAX_VALUE}) {
            CHECKS.due("deliver(" + side + ")", x.deliver(side), StreamWires.BAD);
        }
        CHECKS.due("none", x.deliver(1), 0);
        CHECKS.due("still there", x.side(0, 4), 1);
    }

    /** Three streams, m 4, W 3, R 10; the opening of stream 0 is on the wire from side 0. */
    private static StreamWires opened() {
        StreamWires x = new StreamWires(3, 4, 3, 60, 9);
        x.open(0, 0);
        x.pump(0);
        return x;
    }

    /** Stream 0 is open at both sides, and data of as many words is on the wire from side 0, as number 1. */
    private static StreamWires withData(int words) {
        StreamWires x = opened();
        x.deliver(0);
        for (int i = 0; i < words; i++) {
            x.send(0, 0, 11 * (i + 1));
        }
        x.pump(0);
        return x;
    }

    /** Stream 0 is open at both sides, and a grant of 2 is on the wire from side 1, as number 0. */
    private static StreamWires withGrant() {
        StreamWires x = withData(3);
        x.deliver(0);
        x.receive(1, 0);
        x.receive(1, 0);
        x.pump(1);
        return x;
    }

    private static void takenOfEachKind() {
        StreamWires x = opened();
        CHECKS.due("opening", x.deliver(0), 1);
        CHECKS.dueStream("opened", x, 1, 0, 1, 0, 10, 0, 0, 0, 0, 0, 0, 0);
        CHECKS.due("no opening of its own", x.pump(1), 50);
        CHECKS.due("ack", x.deliver(1), 3);
        CHECKS.dueSide("behind the ack", x, 0, 50, 0, 1, 0, 0, 1, 1, 0, 1, 0, 0, 0);
        x = withGrant();
        CHECKS.due("credit before", x.stream(0, 0, 2), 7);
        CHECKS.due("grant", x.deliver(1), 1);
        CHECKS.due("credit behind", x.stream(0, 0, 2), 9);
        x.close(0, 0);
        x.pump(0);
        CHECKS.due("not shut", x.stream(1, 0, 1), 0);
        CHECKS.due("end", x.deliver(0), 1);
        CHECKS.due("shut", x.stream(1, 0, 1), 1);
        CHECKS.due("open there all the same", x.stream(1, 0, 0), 1);
        CHECKS.due("items lie there all the same", x.stream(1, 0, 5), 1);
    }

    private static void spoiltBySum() {
        for (int k = 0; k < 4; k++) {
            for (int bit = 0; bit < 32; bit++) {
                StreamWires x = withData(1);
                x.corrupt(0, k, 1 << bit);
                CHECKS.due("word " + k + ", bit " + bit, x.deliver(0), 2);
            }
        }
        StreamWires x = withData(1);
        Craft.forgeWhole(x, 0, Craft.head(DATA, 0, 1, 0, 1), 0, 0, 0);
        CHECKS.due("sum 0", x.deliver(0), 2);
        x = withData(1);
        // Modulo 65,535 a half of all bits counts as one of none, so this sum is still right.
        x.corrupt(0, 2, 0xFFFF0000);
        CHECKS.due("what the sum can't see", x.deliver(0), 1);
        CHECKS.due("receive", x.receive(1, 0), 1);
        CHECKS.due("word", x.word(1), 0xFFFF0000 | 11);
        x = withData(1);
        Craft.forge(x, 0, Craft.head(DATA, 0, 1, 0, 1), 0, -1);
        CHECKS.due("all bits, right sum", x.deliver(0), 1);
    }

    private static void dueHead(String why, int kind, int stream, int number, int wanted, int count, int want) {
        StreamWires x = opened();
        Craft.forge(x, 0, Craft.head(kind, stream, number, wanted, count));
        CHECKS.due(why, x.deliver(0), want);
        CHECKS.due(why + ": spoilt", x.side(1, 10), want == 2 ? 1 : 0);
    }

    private static void spoiltByHead() {
        dueHead("as it was", OPENING, 0, 0, 0, 0, 1);
        dueHead("the last stream", OPENING, 2, 0, 0, 0, 1);
        dueHead("no such stream", OPENING, 3, 0, 0, 0, 2);
        dueHead("no such stream", OPENING, 31, 0, 0, 0, 2);
        dueHead("the last number", OPENING, 0, 3, 0, 0, 4);
        dueHead("no such number", OPENING, 0, 4, 0, 0, 2);
        dueHead("no such number", OPENING, 0, 255, 0, 0, 2);
        dueHead("the last wanted, which tells nothing", OPENING, 0, 0, 3, 0, 1);
        dueHead("no such wanted", OPENING, 0, 0, 4, 0, 2);
        dueHead("no such wanted", OPENING, 0, 0, 255, 0, 2);
        dueHead("opening with a count", OPENING, 0, 0, 0, 1, 2);
        dueHead("opening with a count", OPENING, 0, 0, 0, 128, 2);
        dueHead("end with a count", END, 0, 1, 0, 1, 2);
        dueHead("end of another number", END, 0, 1, 0, 0, 4);
        dueHead("ack", ACK, 0, 0, 0, 0, 3);
        dueHead("ack with the last wanted", ACK, 0, 0, 3, 0, 3);
        dueHead("ack with no such wanted", ACK, 0, 0, 4, 0, 2);
        dueHead("ack with a stream", ACK, 1, 0, 0, 0, 2);
        dueHead("ack with a number", ACK, 0, 1, 0, 0, 2);
        dueHead("ack with a count", ACK, 0, 0, 0, 1, 2);
        dueHead("data too short", DATA, 0, 1, 0, 1, 2);
        dueHead("data too short, without words", DATA, 0, 1, 0, 0, 2);
        dueHead("data told as of 255 words", DATA, 0, 1, 0, 255, 2);
        dueHead("grant too short", GRANT, 0, 1, 0, 0, 2);
        for (int kind = 5; kind < 8; kind++) {
            dueHead("no such kind", kind, 0, 0, 0, 0, 2);
        }
    }

    private static void dueData(String why, int want, int... words) {
        StreamWires x = withData(words.length - 2);
        Craft.forge(x, 0, words);
        CHECKS.due(why, x.deliver(0), want);
        CHECKS.due(why + ": items", x.stream(1, 0, 5), want == 1 ? words.length - 2 : 0);
    }

    private static void spoiltByMarks() {
        int two = Craft.head(DATA, 0, 1, 0, 2);
        int four = Craft.head(DATA, 0, 1, 0, 4);
        dueData("no marks", 1, two, 0, 5, 6);
        dueData("a mark", 1, two, 2, 5, 0);
        dueData("marks alone", 1, two, 3, 0, 0);
        dueData("a mark's word", 2, two, 2, 5, 6);
        dueData("a mark's word", 2, two, 1, 1 << 31, 6);
        dueData("a word may be 0", 1, two, 0, 0, 0);
        dueData("a bit beyond", 2, two, 4, 5, 6);
        dueData("a bit far beyond", 2, two, 1 << 31, 5, 6);
        dueData("a bit beyond, with marks", 2, two, 7, 0, 0);
        dueData("the most", 1, four, 15, 0, 0, 0, 0);
        dueData("a bit beyond the most", 2, four, 16, 1, 2, 3, 4);
        dueData("more words than told", 2, Craft.head(DATA, 0, 1, 0, 1), 0, 5, 6);
        dueData("fewer words than told", 2, Craft.head(DATA, 0, 1, 0, 3), 0, 5, 6);
        dueData("an end with words", 2, Craft.head(END, 0, 1, 0, 0), 0, 5, 6);
        moreThanTheMost();
        noWords();
    }

    /** A frame with a count of 0 that has as many words as it tells, of which a grant has three. */
    private static void noWords() {
        StreamWires x = withGrant();
        Craft.forge(x, 1, Craft.head(DATA, 0, 0, 2, 0), 0);
        CHECKS.due("data of no words", x.deliver(1), 2);
    }

    /** No frame is longer than the most allows, so a count above it can't have its words; the words are one fewer. */
    private static void moreThanTheMost() {
        StreamWires x = withData(4);
        Craft.forge(x, 0, Craft.head(DATA, 0, 1, 0, 5), 0, 1, 2, 3, 4);
        CHECKS.due("more than the most", x.deliver(0), 2);
    }

    private static void dueGrant(String why, int want, int head, int granted) {
        StreamWires x = withGrant();
        Craft.forge(x, 1, head, granted);
        CHECKS.due(why, x.deliver(1), want);
        CHECKS.due(why + ": credit", x.stream(0, 0, 2), want == 1 ? 7 + granted : 7);
    }

    private static void spoiltByGrant() {
        int head = Craft.head(GRANT, 0, 0, 2, 0);
        dueGrant("as it was", 1, head, 2);
        dueGrant("the least", 1, head, 1);
        dueGrant("up to R", 1, head, 3);
        dueGrant("above R", 2, head, 4);
        dueGrant("far above R", 2, head, Integer.MAX_VALUE);
        dueGrant("0", 2, head, 0);
        dueGrant("less", 2, head, -1);
        dueGrant("much less", 2, head, Integer.MIN_VALUE);
        dueGrant("with a count", 2, Craft.head(GRANT, 0, 0, 2, 1), 2);
        dueGrant("with the count of its words", 2, Craft.head(GRANT, 0, 0, 2, 3), 2);
        dueGrant("an ack of three words", 2, Craft.head(ACK, 0, 0, 2, 0), 2);
        dueGrant("an opening of three words", 2, Craft.head(OPENING, 1, 0, 2, 0), 2);
    }

    private static void spoiltTellsNoWanted(String why, int kind, int stream, int number, int wanted, int count) {
        StreamWires x = opened();
        x.deliver(0);
        x.pump(1);
        Craft.forge(x, 1, Craft.head(kind, stream, number, wanted, count));
        CHECKS.due(why, x.deliver(1), 2);
        CHECKS.due(why + ": still out", x.side(0, 1), 1);
        CHECKS.due(why + ": the oldest", x.side(0, 2), 0);
    }

    private static void spoiltDoesNothingElse() {
        spoiltTellsNoWanted("no such kind", 5, 0, 0, 1, 0);
        spoiltTellsNoWanted("no such stream", OPENING, 3, 0, 1, 0);
        spoiltTellsNoWanted("no such number", OPENING, 0, 4, 1, 0);
        spoiltTellsNoWanted("no such wanted", ACK, 0, 0, 5, 0);
        spoiltTellsNoWanted("a stream of an ack", ACK, 1, 0, 1, 0);
        spoiltTellsNoWanted("a number of an ack", ACK, 0, 1, 1, 0);
        spoiltTellsNoWanted("a count of an end", END, 0, 0, 1, 1);
        spoiltTellsNoWanted("too short", GRANT, 0, 0, 1, 0);
        StreamWires x = withGrant();
        Craft.forge(x, 1, Craft.head(GRANT, 0, 0, 2, 0), 0);
        CHECKS.due("two are out", x.side(0, 1), 2);
        CHECKS.due("spoilt", x.deliver(1), 2);
        CHECKS.dueSide("nothing else", x, 0, 47, 2, 0, 0, 0, 1, 1, 0, 2, 0, 1, 0);
        CHECKS.due("it is gone", x.side(1, 4), 0);
        CHECKS.due("it is out", x.side(1, 1), 1);
    }

    /** Three frames of side 0 are out, the numbers 2, 3, 0 of 0 .. 3; an ack is on the wire from side 1. */
    private static StreamWires threeOut() {
        StreamWires x = withData(1);
        x.deliver(0);
        x.pump(1);
        x.deliver(1);
        for (int i = 0; i < 12; i++) {
            x.send(0, 0, i);
        }
        CHECKS.due("three", x.drain(0, 9), 3);
        CHECKS.due("taken", x.deliver(0), 1);
        CHECKS.due("ack", x.pump(1), 50);
        CHECKS.due("the oldest", x.side(0, 2), 2);
        CHECKS.due("out", x.side(0, 1), 3);
        return x;
    }

    private static void dueWanted(int wanted, int oldest, int out, int free) {
        StreamWires x = threeOut();
        Craft.forge(x, 1, Craft.head(ACK, 0, 0, wanted, 0));
        CHECKS.due("ack", x.deliver(1), 3);
        CHECKS.due("wanted " + wanted + ": oldest", x.side(0, 2), oldest);
        CHECKS.due("wanted " + wanted + ": out", x.side(0, 1), out);
        CHECKS.due("wanted " + wanted + ": free", x.side(0, 0), free);
    }

    private static void wantedTells() {
        // Nine items have credit, in frames of 4, 4 and 1; three are still to be sent.
        dueWanted(2, 2, 3, 50 - 12);
        dueWanted(3, 3, 2, 50 - 8);
        dueWanted(0, 0, 1, 50 - 4);
        dueWanted(1, 1, 0, 50 - 3);
        StreamWires x = opened();
        x.deliver(0);
        x.pump(1);
        Craft.forge(x, 1, Craft.head(ACK, 0, 0, 2, 0));
        CHECKS.due("an ack of what was never sent", x.deliver(1), 3);
        CHECKS.due("it tells nothing", x.side(0, 1), 1);
        CHECKS.due("it tells nothing", x.side(0, 2), 0);
        CHECKS.due("and needs no ack", x.side(0, 7), 0);
    }

    private static void wantedOfLateAndRefusedFrames() {
        StreamWires x = withGrant();
        Craft.forge(x, 1, Craft.head(GRANT, 0, 3, 2, 0), 2);
        CHECKS.due("late", x.deliver(1), 4);
        CHECKS.dueSide("its wanted tells", x, 0, 50, 0, 2, 0, 0, 1, 1, 1, 2, 0, 0, 1);
        CHECKS.due("it grants nothing", x.stream(0, 0, 2), 7);
        x = withGrant();
        Craft.forge(x, 1, Craft.head(GRANT, 0, 0, 2, 0), 4);
        CHECKS.due("refused", x.deliver(1), 2);
        CHECKS.dueSide("its wanted told before", x, 0, 50, 0, 2, 0, 0, 1, 1, 0, 2, 0, 1, 0);
        CHECKS.due("it grants nothing", x.stream(0, 0, 2), 7);
    }

    private static void lateHasAnotherNumber() {
        StreamWires x = opened();
        x.deliver(0);
        CHECKS.due("once more", x.timeout(0), 1);
        CHECKS.due("behind", x.deliver(0), 4);
        CHECKS.dueSide("late", x, 1, 50, 0, 0, 1, 0, 0, 1, 1, 0, 1, 0, 1);
        x.send(0, 0, 1);
        x.pump(0);
        x.close(0, 0);
        x.pump(0);
        x.lose(0);
        CHECKS.due("before", x.deliver(0), 4);
        CHECKS.due("not shut by it", x.stream(1, 0, 1), 0);
        CHECKS.due("waits still", x.side(1, 3), 1);
        // What can't be taken is late all the same, with another number.
        x.timeout(0);
        Craft.forge(x, 0, Craft.head(END, 2, 3, 0, 0));
        CHECKS.due("end of a new one, of another number", x.deliver(0), 4);
    }

    private static void numbersGoAround() {
        StreamWires x = new StreamWires(1, 1, 2, 60, 9);
        x.open(0, 0);
        for (int i = 0; i < 10; i++) {
            CHECKS.due("frame " + i, x.pump(0), 1);
            CHECKS.due("number " + i, x.wire(0, 0, 0) >> 8 & 255, i % 3);
            CHECKS.due("taken " + i, x.deliver(0), 1);
            CHECKS.due("waits for", x.side(1, 3), (i + 1) % 3);
            CHECKS.due("ack " + i, x.pump(1), 50);
            CHECKS.due("comes " + i, x.deliver(1), 3);
            CHECKS.due("the next one", x.side(0, 2), (i + 1) % 3);
            x.send(0, 0, i);
        }
    }

    private static void refusedOfNewAndShut() {
        StreamWires x = withData(1);
        Craft.forge(x, 0, Craft.head(DATA, 1, 1, 0, 1), 0, 5);
        CHECKS.due("data of a new one", x.deliver(0), 2);
        CHECKS.dueSide("refused", x, 1, 50, 0, 0, 1, 0, 0, 1, 1, 0, 1, 1, 0);
        x = opened();
        Craft.forge(x, 0, Craft.head(END, 0, 0, 0, 0));
        CHECKS.due("end of a new one", x.deliver(0), 2);
        CHECKS.due("not shut", x.stream(1, 0, 1), 0);
        CHECKS.due("no ack", x.side(1, 7), 0);
        x = withData(1);
        x.deliver(0);
        x.close(0, 0);
        x.pump(0);
        CHECKS.due("end", x.deliver(0), 1);
        CHECKS.due("three are out", x.timeout(0), 3);
        Craft.forge(x, 0, Craft.head(END, 0, 3, 0, 0));
        CHECKS.due("a second end", x.deliver(0), 2);
        Craft.forge(x, 0, Craft.head(DATA, 0, 3, 0, 1), 0, 5);
        CHECKS.due("data of a shut one", x.deliver(0), 2);
        CHECKS.due("one item lies", x.stream(1, 0, 5), 1);
    }

    private static void refusedForRoom() {
        // R is 2: one lies there, one is due, and nothing more has room until the grant is sent.
        StreamWires x = new StreamWires(1, 2, 9, 4, 9);
        x.open(0, 0);
        x.send(0, 0, 1);
        x.send(0, 0, 2);
        x.drain(0, 9);
        CHECKS.due("opening", x.deliver(0), 1);
        CHECKS.due("data", x.deliver(0), 1);
        x.timeout(0);
        x.lose(0);
        Craft.forge(x, 0, Craft.head(DATA, 0, 2, 0, 2), 0, 3, 4);
        CHECKS.due("two lie there", x.deliver(0), 2);
        x.receive(1, 0);
        x.receive(1, 0);
        x.timeout(0);
        x.lose(0);
        Craft.forge(x, 0, Craft.head(DATA, 0, 2, 0, 2), 0, 3, 4);
        CHECKS.due("two are due", x.deliver(0), 2);
        CHECKS.due("grant", x.pump(1), 1);
        x.timeout(0);
        x.lose(0);
        Craft.forge(x, 0, Craft.head(DATA, 0, 2, 0, 2), 0, 3, 4);
        CHECKS.due("room again", x.deliver(0), 1);
        x.receive(1, 0);
        x.timeout(0);
        x.lose(0);
        Craft.forge(x, 0, Craft.head(DATA, 0, 3, 0, 2), 0, 3, 4);
        CHECKS.due("one lies, one is due", x.deliver(0), 2);
        CHECKS.dueStream("full", x, 1, 0, 1, 0, 2, 1, 0, 1, 0, 0, 3, 0);
    }

    private static void refusedGrants() {
        StreamWires x = withGrant();
        Craft.forge(x, 1, Craft.head(GRANT, 1, 0, 0, 0), 1);
        CHECKS.due("grant for a new one", x.deliver(1), 2);
        CHECKS.due("still new", x.stream(0, 1, 0), 0);
        x = withGrant();
        x.open(0, 2);
        Craft.forge(x, 1, Craft.head(GRANT, 2, 0, 0, 0), 1);
        CHECKS.due("grant for one with R of credit", x.deliver(1), 2);
        CHECKS.due("still R", x.stream(0, 2, 2), 10);
    }

    private static void refusedOpenings() {
        StreamWires x = opened();
        x.deliver(0);
        x.timeout(0);
        Craft.forge(x, 0, Craft.head(OPENING, 0, 1, 0, 0));
        CHECKS.due("a second opening", x.deliver(0), 2);
        x.timeout(0);
        Craft.forge(x, 0, Craft.head(OPENING, 1, 1, 0, 0));
        CHECKS.due("an opening of another one", x.deliver(0), 1);
        CHECKS.due("it is open", x.stream(1, 1, 0), 1);
        StreamWires y = opened();
        y.open(1, 0);
        CHECKS.due("both open", y.deliver(0), 1);
        y.timeout(0);
        Craft.forge(y, 0, Craft.head(OPENING, 0, 1, 0, 0));
        CHECKS.due("a second opening, both open", y.deliver(0), 2);
    }

    private static void bothOpen() {
        StreamWires x = opened();
        x.open(1, 0);
        x.send(1, 0, 9);
        CHECKS.due("opening", x.deliver(0), 1);
        CHECKS.dueStream("its own opening is still to be sent", x, 1, 0, 1, 0, 10, 0, 1, 0, 1, 0);
        CHECKS.due("opening, data", x.drain(1, 9), 2);
        CHECKS.due("opening", x.deliver(1), 1);
        CHECKS.due("data", x.deliver(1), 1);
        CHECKS.dueStream("both", x, 0, 0, 1, 0, 10, 0, 0, 1, 0, 0);
        StreamWires y = opened();
        y.open(1, 0);
        for (int i = 0; i < 4; i++) {
            y.send(1, 0, i);
        }
        y.close(1, 0);
        y.drain(1, 2);
        CHECKS.due("an opening for one that is ending", y.deliver(0), 1);
        CHECKS.dueStream("it changes nothing", y, 1, 0, 2, 0, 6, 0, 0, 0, 0, 1);
    }
}
