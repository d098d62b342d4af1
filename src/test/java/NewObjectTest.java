/** Promise 1: a new object, and how what it is told is brought to the limits. */
public final class NewObjectTest {
    private static final Checks CHECKS = new Checks();

    public static void main(String[] args) {
        allIsNew();
        streamsAreBroughtToLimits();
        most();
        window();
        cells();
        wire();
        allAtOnce();
        keptCells();
        CHECKS.end();
    }

    private static void most() {
        CHECKS.sentence("m 1 .. 16 (each brought to these)");
        mostIsBroughtToLimits(Integer.MIN_VALUE, 1);
        mostIsBroughtToLimits(-5, 1);
        mostIsBroughtToLimits(0, 1);
        mostIsBroughtToLimits(1, 1);
        mostIsBroughtToLimits(2, 2);
        mostIsBroughtToLimits(15, 15);
        mostIsBroughtToLimits(16, 16);
        mostIsBroughtToLimits(17, 16);
        mostIsBroughtToLimits(Integer.MAX_VALUE, 16);
    }

    private static void window() {
        CHECKS.sentence("W 1 .. 15 (each brought to these)");
        windowIsBroughtToLimits(Integer.MIN_VALUE, 1);
        windowIsBroughtToLimits(-1, 1);
        windowIsBroughtToLimits(0, 1);
        windowIsBroughtToLimits(1, 1);
        windowIsBroughtToLimits(2, 2);
        windowIsBroughtToLimits(14, 14);
        windowIsBroughtToLimits(15, 15);
        windowIsBroughtToLimits(16, 15);
        windowIsBroughtToLimits(Integer.MAX_VALUE, 15);
    }

    private static void cells() {
        CHECKS.sentence("CELLS 4 .. 400 (each brought to these)");
        cellsAreBroughtToLimits(Integer.MIN_VALUE, 4);
        cellsAreBroughtToLimits(0, 4);
        cellsAreBroughtToLimits(3, 4);
        cellsAreBroughtToLimits(4, 4);
        cellsAreBroughtToLimits(5, 5);
        cellsAreBroughtToLimits(399, 399);
        cellsAreBroughtToLimits(400, 400);
        cellsAreBroughtToLimits(401, 400);
        cellsAreBroughtToLimits(Integer.MAX_VALUE, 400);
    }

    private static void wire() {
        CHECKS.sentence("V 1 .. 20 (each brought to these)");
        wireIsBroughtToLimits(Integer.MIN_VALUE, 1);
        wireIsBroughtToLimits(-1, 1);
        wireIsBroughtToLimits(0, 1);
        wireIsBroughtToLimits(1, 1);
        wireIsBroughtToLimits(2, 2);
        wireIsBroughtToLimits(19, 19);
        wireIsBroughtToLimits(20, 20);
        wireIsBroughtToLimits(21, 20);
        wireIsBroughtToLimits(Integer.MAX_VALUE, 20);
    }

    /** The least and the largest object of all carry words. */
    private static void allAtOnce() {
        CHECKS.sentence("each brought to these");
        for (int told : new int[] {Integer.MIN_VALUE, Integer.MAX_VALUE}) {
            StreamWires x = new StreamWires(told, told, told, told, told);
            int last = told < 0 ? 0 : 7;
            CHECKS.due("cells", x.side(0, 0), told < 0 ? 4 : 400);
            CHECKS.due("open", x.open(1, last), 1);
            CHECKS.due("behind the last stream", x.open(1, last + 1), StreamWires.BAD);
            CHECKS.due("credit", x.stream(1, last, 2), told < 0 ? 2 : 25);
            CHECKS.due("send", x.send(1, last, -7), 1);
            Scenes.settle(x);
            CHECKS.due("receive", x.receive(0, last), 1);
            CHECKS.due("word", x.word(0), -7);
        }
    }

    private static void allIsNew() {
        CHECKS.sentence("all NEW, with a WEIGHT of 1, the TURN stream 0's");
        StreamWires x = new StreamWires(3, 4, 5, 60, 7);
        for (int side = 0; side < 2; side++) {
            for (int stream = 0; stream < 3; stream++) {
                CHECKS.dueStream("new", x, side, stream, 0, 0, 0, 0, 0, 0, 0, 0, 0, 0);
                CHECKS.due("receive of a new one", x.receive(side, stream), 0);
                CHECKS.due("weight of a new one", x.weight(side, stream, 2), 1);
            }
            CHECKS.dueSide("new", x, side, 60, 0, 0, 0, 0, 0, 1, 0, 0, 0, 0, 0);
            CHECKS.due("word", x.word(side), 0);
            CHECKS.due("pump", x.pump(side), 0);
            CHECKS.due("deliver", x.deliver(side), 0);
            CHECKS.due("timeout", x.timeout(side), 0);
            CHECKS.due("lose", x.lose(side), false);
        }
    }

    private static void streamsAreBroughtToLimits() {
        CHECKS.sentence("STREAMS 1 .. 8 (each brought to these)");
        int[] told = {Integer.MIN_VALUE, -1, 0, 1, 2, 7, 8, 9, Integer.MAX_VALUE};
        int[] kept = {1, 1, 1, 1, 2, 7, 8, 8, 8};
        for (int i = 0; i < told.length; i++) {
            StreamWires x = new StreamWires(told[i], 4, 5, 60, 7);
            CHECKS.due("the last of " + told[i], x.open(0, kept[i] - 1), 1);
            CHECKS.due("behind the last of " + told[i], x.open(0, kept[i]), StreamWires.BAD);
        }
    }

    private static void mostIsBroughtToLimits(int told, int most) {
        StreamWires x = new StreamWires(1, told, 5, 400, 7);
        x.open(0, 0);
        for (int i = 0; i < 20; i++) {
            x.send(0, 0, i);
        }
        CHECKS.due("opening and data", x.drain(0, 2), 2);
        CHECKS.due("items left with most " + told, x.stream(0, 0, 4), 20 - most);
    }

    private static void windowIsBroughtToLimits(int told, int window) {
        StreamWires x = new StreamWires(1, 1, told, 400, 20);
        x.open(0, 0);
        for (int i = 0; i < 20; i++) {
            x.send(0, 0, i);
        }
        CHECKS.due("frames out with window " + told, x.drain(0, 30), window);
        CHECKS.due("out", x.side(0, 1), window);
    }

    private static void cellsAreBroughtToLimits(int told, int cells) {
        StreamWires x = new StreamWires(1, 1, 1, told, 1);
        CHECKS.due("cells told " + told, x.side(0, 0), cells);
        CHECKS.due("cells told " + told, x.side(1, 0), cells);
    }

    private static void wireIsBroughtToLimits(int told, int room) {
        StreamWires x = new StreamWires(1, 1, 15, 400, told);
        x.open(0, 0);
        for (int i = 0; i < 20; i++) {
            x.send(0, 0, i);
        }
        CHECKS.due("new frames on a wire of " + told, x.drain(0, 1000), Math.min(room, 15));
        CHECKS.due("frames once more on a wire of " + told, x.timeout(0), Math.max(0, room - 15));
        CHECKS.due("frames on a wire of " + told, x.side(0, 4), room);
        CHECKS.due("no room on a wire of " + told, x.timeout(0), 0);
    }

    private static void keptCells() {
        CHECKS.sentence("R: CELLS by 2 s, cut off, 1 at least");
        int[][] rows = {{1, 4, 2}, {1, 5, 2}, {1, 400, 200}, {2, 20, 5}, {2, 23, 5}, {8, 4, 1}, {8, 31, 1}, {8, 32, 2}, {3, 60, 10}};
        for (int[] row : rows) {
            StreamWires x = new StreamWires(row[0], 1, 1, row[1], 1);
            x.open(1, 0);
            CHECKS.due("credit of " + row[0] + " streams, " + row[1] + " cells", x.stream(1, 0, 2), row[2]);
            CHECKS.due("free of " + row[0] + " streams, " + row[1] + " cells", x.side(1, 0), row[1] - row[2]);
            CHECKS.due("free there", x.side(0, 0), row[1]);
        }
    }
}
