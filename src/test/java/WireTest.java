/** Promises 12 to 15: lose, corrupt, timeout, wire. */
public final class WireTest {
    private static final Checks CHECKS = new Checks();
    private static final int[] NO_SIDES = {-1, 2, Integer.MIN_VALUE, Integer.MAX_VALUE};

    public static void main(String[] args) {
        wrongSides();
        loses();
        corrupts();
        wires();
        timeouts();
        timeoutStopsAtTheWiresRoom();
        timeoutSendsWhatWasNotSpoilt();
        timeoutTellsWhatIsWantedNow();
        CHECKS.end();
    }

    /** Frames of stream 1 from side 0: its opening, two words with a mark between them, its end. */
    private static StreamWires three(int wire) {
        StreamWires x = new StreamWires(2, 4, 5, 60, wire);
        x.open(0, 1);
        x.send(0, 1, 21);
        x.mark(0, 1);
        x.send(0, 1, 22);
        x.close(0, 1);
        x.drain(0, 9);
        return x;
    }

    private static final int[] FIRST = Craft.sealed(Craft.head(Craft.OPENING, 1, 0, 0, 0));
    private static final int[] SECOND = Craft.sealed(Craft.head(Craft.DATA, 1, 1, 0, 3), 2, 21, 0, 22);
    private static final int[] THIRD = Craft.sealed(Craft.head(Craft.END, 1, 2, 0, 0));

    private static void wrongSides() {
        StreamWires x = three(9);
        for (int side : NO_SIDES) {
            CHECKS.due("lose(" + side + ")", x.lose(side), false);
            CHECKS.due("corrupt(" + side + ")", x.corrupt(side, 0, 1), false);
            CHECKS.due("timeout(" + side + ")", x.timeout(side), StreamWires.BAD);
            CHECKS.due("wire(" + side + ")", x.wire(side, 0, 0), 0);
        }
        CHECKS.due("all are there", x.side(0, 4), 3);
        CHECKS.dueFrame("unchanged", x, 0, 0, FIRST);
    }

    private static void loses() {
        StreamWires x = three(9);
        CHECKS.due("none on the other wire", x.lose(1), false);
        CHECKS.due("the oldest", x.lose(0), true);
        CHECKS.dueFrame("then", x, 0, 0, SECOND);
        CHECKS.due("the oldest", x.lose(0), true);
        CHECKS.due("the oldest", x.lose(0), true);
        CHECKS.due("none", x.lose(0), false);
        CHECKS.due("none", x.side(0, 4), 0);
        CHECKS.due("all are out", x.side(0, 1), 3);
        CHECKS.dueSide("nothing came", x, 1, 60, 0, 0, 0, 0, 0, 1, 0, 0, 0, 0, 0);
    }

    private static void corrupts() {
        StreamWires x = three(9);
        CHECKS.due("none on the other wire", x.corrupt(1, 0, 1), false);
        CHECKS.due("mask 0", x.corrupt(0, 0, 0), false);
        CHECKS.due("no word 2", x.corrupt(0, 2, 1), false);
        CHECKS.due("no word -1", x.corrupt(0, -1, 1), false);
        CHECKS.due("no such word", x.corrupt(0, Integer.MAX_VALUE, 1), false);
        CHECKS.due("no such word", x.corrupt(0, Integer.MIN_VALUE, 1), false);
        CHECKS.dueFrame("unchanged", x, 0, 0, FIRST);
        x.lose(0);
        CHECKS.due("a word", x.corrupt(0, 2, -1), true);
        CHECKS.due("it", x.wire(0, 0, 2), ~21);
        CHECKS.due("a bit of it", x.corrupt(0, 2, 1 << 31), true);
        CHECKS.due("it", x.wire(0, 0, 2), ~21 ^ 1 << 31);
        CHECKS.due("the sum", x.corrupt(0, 5, 3), true);
        CHECKS.due("it", x.wire(0, 0, 5), SECOND[5] ^ 3);
        CHECKS.due("behind the sum", x.corrupt(0, 6, 3), false);
        CHECKS.dueFrame("the next one is unchanged", x, 0, 1, THIRD);
        CHECKS.due("back", x.corrupt(0, 5, 3), true);
        CHECKS.due("back", x.corrupt(0, 2, Integer.MAX_VALUE), true);
        CHECKS.dueFrame("as it was", x, 0, 0, SECOND);
    }

    private static void wires() {
        StreamWires x = three(9);
        CHECKS.dueFrame("first", x, 0, 0, FIRST);
        CHECKS.dueFrame("second", x, 0, 1, SECOND);
        CHECKS.dueFrame("third", x, 0, 2, THIRD);
        int[] none = {-1, 3, 9, 20, Integer.MIN_VALUE, Integer.MAX_VALUE};
        for (int i : none) {
            CHECKS.due("no frame " + i, x.wire(0, i, 0), 0);
        }
        int[] noWord = {-1, 6, 18, 19, Integer.MIN_VALUE, Integer.MAX_VALUE};
        for (int k : noWord) {
            CHECKS.due("no word " + k, x.wire(0, 1, k), 0);
        }
        CHECKS.due("none on the other wire", x.wire(1, 0, 0), 0);
        x.deliver(0);
        x.lose(0);
        x.timeout(0);
        CHECKS.dueFrame("first", x, 0, 0, THIRD);
        CHECKS.dueFrame("behind it", x, 0, 1, FIRST);
    }

    private static void timeouts() {
        StreamWires x = three(9);
        int turn = x.side(0, 5);
        CHECKS.due("nothing is out there", x.timeout(1), 0);
        CHECKS.due("all", x.timeout(0), 3);
        CHECKS.due("on the wire", x.side(0, 4), 6);
        CHECKS.due("sent", x.side(0, 8), 6);
        CHECKS.due("out", x.side(0, 1), 3);
        CHECKS.dueFrame("first", x, 0, 3, FIRST);
        CHECKS.dueFrame("second", x, 0, 4, SECOND);
        CHECKS.dueFrame("third", x, 0, 5, THIRD);
        CHECKS.due("its turn is not touched", x.side(0, 5), turn);
        x.deliver(0);
        x.deliver(0);
        CHECKS.due("an ack", x.pump(1), 50);
        CHECKS.due("acks are not sent once more", x.timeout(1), 0);
        x.deliver(1);
        CHECKS.due("one is out", x.timeout(0), 1);
        CHECKS.dueFrame("the last one", x, 0, 4, THIRD);
    }

    private static void timeoutStopsAtTheWiresRoom() {
        StreamWires x = three(4);
        CHECKS.due("room for one", x.timeout(0), 1);
        CHECKS.dueFrame("the oldest", x, 0, 3, FIRST);
        CHECKS.due("no room", x.timeout(0), 0);
        x.lose(0);
        x.lose(0);
        CHECKS.due("room for two", x.timeout(0), 2);
        CHECKS.dueFrame("the oldest", x, 0, 2, FIRST);
        CHECKS.dueFrame("the next one", x, 0, 3, SECOND);
        CHECKS.due("sent", x.side(0, 8), 6);
    }

    private static void timeoutSendsWhatWasNotSpoilt() {
        StreamWires x = three(9);
        x.deliver(0);
        x.corrupt(0, 2, 1);
        CHECKS.due("spoilt", x.deliver(0), 2);
        CHECKS.due("late", x.deliver(0), 4);
        CHECKS.due("all", x.timeout(0), 3);
        CHECKS.due("late", x.deliver(0), 4);
        CHECKS.due("data", x.deliver(0), 1);
        CHECKS.due("end", x.deliver(0), 1);
        CHECKS.due("word", x.receive(1, 1), 1);
        CHECKS.due("as it was", x.word(1), 21);
    }

    private static void timeoutTellsWhatIsWantedNow() {
        StreamWires x = three(9);
        x.open(1, 0);
        x.pump(1);
        x.deliver(1);
        CHECKS.due("waits for", x.side(0, 3), 1);
        x.timeout(0);
        CHECKS.dueFrame("wanted then", x, 0, 0, FIRST);
        CHECKS.dueFrame("wanted now", x, 0, 3, Craft.sealed(Craft.head(Craft.OPENING, 1, 0, 1, 0)));
        CHECKS.dueFrame("wanted now", x, 0, 4, Craft.sealed(Craft.head(Craft.DATA, 1, 1, 1, 3), 2, 21, 0, 22));
        CHECKS.dueFrame("wanted now", x, 0, 5, Craft.sealed(Craft.head(Craft.END, 1, 2, 1, 0)));
        x.send(1, 0, 5);
        x.pump(1);
        x.deliver(1);
        x.timeout(0);
        CHECKS.dueFrame("wanted still later", x, 0, 6, Craft.sealed(Craft.head(Craft.OPENING, 1, 0, 2, 0)));
    }
}
