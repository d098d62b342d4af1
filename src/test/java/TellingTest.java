/** Promises 16 and 17: stream and side. */
public final class TellingTest {
    private static final Checks CHECKS = new Checks();

    public static void main(String[] args) {
        wrongInputs();
        aStreamsLife();
        aSidesLife();
        tellingChangesNothing();
        CHECKS.end();
    }

    private static void wrongInputs() {
        StreamWires x = new StreamWires(2, 2, 3, 20, 4);
        int[] noSides = {-1, 2, Integer.MIN_VALUE, Integer.MAX_VALUE};
        for (int side : noSides) {
            CHECKS.due("stream of side " + side, x.stream(side, 0, 0), StreamWires.BAD);
            CHECKS.due("side " + side, x.side(side, 0), StreamWires.BAD);
        }
        int[] noStreams = {-1, 2, 8, Integer.MIN_VALUE, Integer.MAX_VALUE};
        for (int stream : noStreams) {
            CHECKS.due("stream " + stream, x.stream(0, stream, 0), StreamWires.BAD);
        }
        int[] noNumbers = {-1, 12, 13, Integer.MIN_VALUE, Integer.MAX_VALUE};
        for (int what : noNumbers) {
            CHECKS.due("stream, number " + what, x.stream(1, 1, what), StreamWires.BAD);
            CHECKS.due("side, number " + what, x.side(1, what), StreamWires.BAD);
        }
        CHECKS.due("stream, number 10", x.stream(1, 1, 10), StreamWires.BAD);
        CHECKS.due("stream, number 11", x.stream(1, 1, 11), StreamWires.BAD);
        CHECKS.due("side, number 11", x.side(1, 11), 0);
    }

    private static void aStreamsLife() {
        StreamWires x = new StreamWires(2, 2, 7, 24, 9);
        CHECKS.dueStream("new", x, 0, 1, 0, 0, 0, 0, 0, 0, 0, 0, 0, 0);
        x.open(0, 1);
        x.send(0, 1, 1);
        x.mark(0, 1);
        x.send(0, 1, 3);
        CHECKS.dueStream("filled", x, 0, 1, 1, 0, 6, 0, 3, 0, 1, 0, 0, 0);
        x.close(0, 1);
        CHECKS.dueStream("closed", x, 0, 1, 2, 0, 6, 0, 3, 0, 1, 1, 0, 0);
        x.pump(0);
        CHECKS.dueStream("opening sent", x, 0, 1, 2, 0, 6, 0, 3, 0, 0, 1, 0, 0);
        x.pump(0);
        CHECKS.dueStream("data sent", x, 0, 1, 2, 0, 4, 0, 1, 0, 0, 1, 0, 0);
        x.pump(0);
        CHECKS.dueStream("more data sent", x, 0, 1, 2, 0, 3, 0, 0, 0, 0, 1, 0, 0);
        x.pump(0);
        CHECKS.dueStream("end sent", x, 0, 1, 2, 0, 3, 0, 0, 0, 0, 0, 0, 0);
        x.deliver(0);
        x.deliver(0);
        CHECKS.dueStream("two came", x, 1, 1, 1, 0, 6, 0, 0, 2, 0, 0, 0, 0);
        x.deliver(0);
        x.deliver(0);
        CHECKS.dueStream("all came", x, 1, 1, 1, 1, 6, 0, 0, 3, 0, 0, 0, 0);
        x.receive(1, 1);
        x.receive(1, 1);
        CHECKS.dueStream("two taken", x, 1, 1, 1, 1, 6, 2, 0, 1, 0, 0, 1, 1);
        x.pump(1);
        CHECKS.dueStream("granted", x, 1, 1, 1, 1, 6, 0, 0, 1, 0, 0, 1, 1);
        x.deliver(1);
        CHECKS.dueStream("grant came", x, 0, 1, 2, 0, 5, 0, 0, 0, 0, 0, 0, 0);
        x.close(1, 1);
        x.pump(1);
        x.deliver(1);
        CHECKS.dueStream("both ended", x, 0, 1, 2, 1, 5, 0, 0, 0, 0, 0, 0, 0);
        CHECKS.due("nothing comes any more", x.receive(0, 1), 4);
        CHECKS.dueStream("the other one", x, 0, 0, 0, 0, 0, 0, 0, 0, 0, 0, 0, 0);
    }

    private static void aSidesLife() {
        StreamWires x = new StreamWires(2, 2, 2, 24, 3);
        x.open(0, 0);
        x.open(0, 1);
        CHECKS.dueSide("opened", x, 0, 12, 0, 0, 0, 0, 0, 1, 0, 0, 0, 0, 0);
        x.drain(0, 9);
        CHECKS.dueSide("sent", x, 0, 12, 2, 0, 0, 2, 0, 1, 0, 2, 0, 0, 0);
        x.timeout(0);
        CHECKS.dueSide("sent once more", x, 0, 12, 2, 0, 0, 3, 0, 1, 0, 3, 0, 0, 0);
        x.deliver(0);
        x.corrupt(0, 1, 1);
        x.deliver(0);
        x.deliver(0);
        CHECKS.dueSide("taken, spoilt, late", x, 1, 18, 0, 0, 1, 0, 0, 1, 1, 0, 1, 1, 1);
        x.pump(1);
        CHECKS.dueSide("ack", x, 1, 18, 0, 0, 1, 1, 0, 1, 0, 1, 1, 1, 1);
        x.deliver(1);
        CHECKS.dueSide("ack came", x, 0, 12, 1, 1, 0, 0, 0, 1, 0, 3, 0, 0, 0);
        x.timeout(0);
        x.deliver(0);
        x.pump(1);
        x.deliver(1);
        CHECKS.dueSide("all is known", x, 0, 12, 0, 2, 0, 0, 0, 1, 0, 4, 0, 0, 0);
        CHECKS.dueSide("all came", x, 1, 12, 0, 0, 2, 0, 0, 1, 0, 2, 2, 1, 1);
        x.weight(0, 1, 4);
        x.send(0, 1, 1);
        x.pump(0);
        CHECKS.dueSide("a turn anew", x, 0, 11, 1, 2, 0, 1, 1, 3, 0, 5, 0, 0, 0);
    }

    private static void tellingChangesNothing() {
        StreamWires x = new StreamWires(1, 1, 1, 4, 1);
        x.open(0, 0);
        x.pump(0);
        x.deliver(0);
        for (int i = 0; i < 3; i++) {
            CHECKS.due("owes an ack", x.side(1, 7), 1);
            CHECKS.due("one is out", x.side(0, 1), 1);
        }
        CHECKS.due("an ack", x.pump(1), 50);
    }
}
