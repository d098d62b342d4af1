/** Promises 6 and 7: receive and word. */
public final class ReceivingTest {
    private static final Checks CHECKS = new Checks();

    public static void main(String[] args) {
        wrongInputs();
        itemsInOrder();
        shutOnlyWhenNothingLies();
        oneWordForAllStreamsOfASide();
        receiveAtTheSideThatEnded();
        CHECKS.end();
    }

    private static void wrongInputs() {
        StreamWires x = new StreamWires(2, 2, 3, 20, 4);
        CHECKS.due("no such side", x.receive(2, 0), StreamWires.BAD);
        CHECKS.due("no such side", x.receive(-1, 0), StreamWires.BAD);
        CHECKS.due("no such stream", x.receive(0, 2), StreamWires.BAD);
        CHECKS.due("no such stream", x.receive(1, -1), StreamWires.BAD);
        CHECKS.due("word of no side", x.word(2), 0);
        CHECKS.due("word of no side", x.word(-1), 0);
        CHECKS.due("word before", x.word(1), 0);
    }

    private static void itemsInOrder() {
        StreamWires x = new StreamWires(2, 3, 3, 20, 4);
        CHECKS.due("new", x.receive(0, 1), 0);
        x.open(0, 1);
        CHECKS.due("opened, empty", x.receive(0, 1), 3);
        x.send(0, 1, -7);
        x.mark(0, 1);
        x.send(0, 1, 0x12345678);
        x.drain(0, 2);
        CHECKS.due("not come yet", x.receive(1, 1), 0);
        x.deliver(0);
        CHECKS.due("open, nothing lies", x.receive(1, 1), 3);
        x.deliver(0);
        CHECKS.due("a word", x.receive(1, 1), 1);
        CHECKS.due("it", x.word(1), -7);
        CHECKS.dueStream("one taken", x, 1, 1, 1, 0, 5, 1, 0, 2, 0, 0, 1, 0);
        CHECKS.due("a mark", x.receive(1, 1), 2);
        CHECKS.due("the word stays", x.word(1), -7);
        CHECKS.dueStream("two taken", x, 1, 1, 1, 0, 5, 2, 0, 1, 0, 0, 1, 1);
        CHECKS.due("a word", x.receive(1, 1), 1);
        CHECKS.due("it", x.word(1), 0x12345678);
        CHECKS.due("none", x.receive(1, 1), 3);
        CHECKS.due("the word stays", x.word(1), 0x12345678);
        CHECKS.due("none at the other side", x.word(0), 0);
        CHECKS.dueStream("three taken", x, 1, 1, 1, 0, 5, 3, 0, 0, 0, 0, 2, 1);
    }

    private static void shutOnlyWhenNothingLies() {
        StreamWires x = new StreamWires(1, 3, 5, 20, 9);
        x.open(0, 0);
        x.send(0, 0, 4);
        x.close(0, 0);
        x.drain(0, 9);
        x.deliver(0);
        x.deliver(0);
        x.deliver(0);
        CHECKS.due("shut", x.stream(1, 0, 1), 1);
        CHECKS.due("one still lies", x.receive(1, 0), 1);
        CHECKS.due("none lies, shut", x.receive(1, 0), 4);
        CHECKS.due("once more", x.receive(1, 0), 4);
        CHECKS.due("due though shut", x.stream(1, 0, 3), 1);
        CHECKS.due("a grant though shut", x.pump(1), 1);
        CHECKS.due("it comes", x.deliver(1), 1);
        CHECKS.due("credit though ended", x.stream(0, 0, 2), 10);
    }

    private static void oneWordForAllStreamsOfASide() {
        StreamWires x = new StreamWires(2, 3, 9, 20, 9);
        for (int stream = 0; stream < 2; stream++) {
            x.open(0, stream);
            x.send(0, stream, 100 + stream);
        }
        for (int left = x.drain(0, 9); left > 0; left--) {
            x.deliver(0);
        }
        CHECKS.due("of stream 1", x.receive(1, 1), 1);
        CHECKS.due("its word", x.word(1), 101);
        CHECKS.due("of stream 0", x.receive(1, 0), 1);
        CHECKS.due("its word", x.word(1), 100);
        CHECKS.due("counted apart", x.stream(1, 0, 8), 1);
        CHECKS.due("counted apart", x.stream(1, 1, 8), 1);
    }

    private static void receiveAtTheSideThatEnded() {
        StreamWires x = new StreamWires(1, 3, 9, 20, 9);
        x.open(0, 0);
        x.close(0, 0);
        x.drain(0, 9);
        x.deliver(0);
        x.deliver(0);
        CHECKS.due("half closed: it sends back", x.send(1, 0, 8), 1);
        CHECKS.due("data", x.pump(1), 1);
        CHECKS.due("taken", x.deliver(1), 1);
        CHECKS.due("received while ending", x.receive(0, 0), 1);
        CHECKS.due("word", x.word(0), 8);
        CHECKS.due("not shut here", x.receive(0, 0), 3);
    }
}
