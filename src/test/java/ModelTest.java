import java.util.Random;

/**
 * Long runs of calls from fixed seeds, each answer and the state behind it compared with the model's. With the looks at
 * the state a run has more calls than the 512 of the document; the class keeps its promises behind them all the same.
 */
public final class ModelTest {
    private static final int RUNS = 1500;
    private static final int CALLS = 512;
    private static final int[] STRANGE = {-1, 2, 8, 12, 1001, 65536, Integer.MIN_VALUE, Integer.MAX_VALUE};

    private final Random random;
    private final StringBuilder told = new StringBuilder();
    private final StreamWires x;
    private final Model model;
    private final int streams;
    private boolean same = true;
    /** How often deliver() answered each number, in all runs. */
    private static final int[] FATES = new int[5];

    private ModelTest(long seed) {
        random = new Random(seed);
        streams = oneOf(1, 2, 3, 8, 1 + random.nextInt(8));
        int most = oneOf(1, 2, 4, 16, random.nextInt(18));
        int window = oneOf(1, 2, 3, 15, random.nextInt(17));
        int cells = oneOf(4, 20, 60, 400, random.nextInt(402));
        int wire = oneOf(1, 3, 20, random.nextInt(22));
        told.append("seed " + seed + ": " + streams + " " + most + " " + window + " " + cells + " " + wire);
        x = new StreamWires(streams, most, window, cells, wire);
        model = new Model(streams, most, window, cells, wire);
    }

    public static void main(String[] args) {
        int wrong = 0;
        for (long seed = 1; seed <= RUNS; seed++) {
            ModelTest run = new ModelTest(seed);
            if (!run.runs()) {
                wrong++;
                System.out.println(run.told);
            }
        }
        for (int fate = 0; fate < FATES.length; fate++) {
            if (FATES[fate] < 1000) {
                wrong++;
                System.out.println("deliver() answered " + fate + " only " + FATES[fate] + " times");
            }
        }
        System.out.println(wrong == 0 ? "all " + RUNS + " runs are as the model's" : wrong + " are not as due");
        if (wrong != 0) {
            System.exit(1);
        }
    }

    private boolean runs() {
        boolean orderly = random.nextInt(3) == 0;
        for (int i = 0; i < CALLS && same; i++) {
            call(orderly);
            compareState();
        }
        return same;
    }

    private int oneOf(int... values) {
        return values[random.nextInt(values.length)];
    }

    private int aSide() {
        return random.nextInt(60) == 0 ? oneOf(STRANGE) : random.nextInt(2);
    }

    private int aStream() {
        return random.nextInt(60) == 0 ? oneOf(STRANGE) : random.nextInt(streams);
    }

    private int aWord() {
        return oneOf(0, -1, random.nextInt(), random.nextInt(5), 65535, -65536);
    }

    private void due(String call, int got, int want) {
        if (got != want) {
            same = false;
            told.append(", " + call + " answered " + got + ", the model " + want);
        }
    }

    /** In an orderly run nothing is lost, spoilt or forged, so that much is carried. */
    private void call(boolean orderly) {
        int side = aSide();
        int stream = aStream();
        switch (random.nextInt(orderly ? 26 : 32)) {
            case 0, 1 -> due("open", x.open(side, stream), model.open(side, stream));
            case 2, 3, 4, 5 -> {
                int word = aWord();
                due("send", x.send(side, stream, word), model.send(side, stream, word));
            }
            case 6 -> due("mark", x.mark(side, stream), model.mark(side, stream));
            case 7 -> close(side, stream);
            case 8, 9, 10, 11 -> {
                due("receive", x.receive(side, stream), model.receive(side, stream));
                due("word", x.word(side), model.word(side));
            }
            case 12 -> {
                int w = oneOf(1, 2, 3, 4, 0, 5, oneOf(STRANGE));
                due("weight", x.weight(side, stream, w), model.weight(side, stream, w));
            }
            case 13, 14, 15, 16, 17 -> due("pump", x.pump(side), model.pump(side));
            case 18 -> {
                int n = oneOf(0, 1, 3, 1000, oneOf(STRANGE));
                due("drain", x.drain(side, n), model.drain(side, n));
            }
            case 19, 20, 21, 22, 23, 24, 25 -> deliver(side);
            case 26 -> due("lose", x.lose(side) ? 1 : 0, model.lose(side) ? 1 : 0);
            case 27 -> corrupt(side, random.nextInt(22) - 1, random.nextBoolean() ? 1 << random.nextInt(32) : aWord());
            case 28, 29 -> due("timeout", x.timeout(side), model.timeout(side));
            default -> forge(random.nextInt(2));
        }
    }

    /** A close ends much, so only some of the calls go through. */
    private void close(int side, int stream) {
        if (random.nextInt(4) == 0) {
            due("close", x.close(side, stream), model.close(side, stream));
        }
    }

    private void deliver(int side) {
        int fate = model.deliver(side);
        due("deliver", x.deliver(side), fate);
        if (fate >= 0) {
            FATES[fate]++;
        }
    }

    private void corrupt(int side, int k, int mask) {
        due("corrupt", x.corrupt(side, k, mask) ? 1 : 0, model.corrupt(side, k, mask) ? 1 : 0);
    }

    /** Changes one thing of the oldest frame and makes its sum right again, then delivers it. */
    private void forge(int side) {
        int length = 0;
        while (model.corrupt(side, length, 1) && model.corrupt(side, length, 1)) {
            length++;
        }
        if (length == 0) {
            return;
        }
        int[] words = new int[length - 1];
        for (int k = 0; k < words.length; k++) {
            words[k] = model.wire(side, 0, k);
        }
        change(words, side);
        int[] frame = Craft.sealed(words);
        for (int k = 0; k < length; k++) {
            corrupt(side, k, model.wire(side, 0, k) ^ frame[k]);
        }
        deliver(side);
    }

    private void change(int[] words, int side) {
        int waitedFor = model.side(1 - side, 3);
        switch (random.nextInt(8)) {
            case 0 -> words[0] = words[0] & ~7 | random.nextInt(8);
            case 1 -> words[0] = words[0] & ~0xF8 | random.nextInt(random.nextBoolean() ? streams : 32) << 3;
            case 2 -> words[0] = words[0] & ~0xFF00 | random.nextInt(18) << 8;
            case 3 -> words[0] = words[0] & ~0xFF0000 | random.nextInt(18) << 16;
            case 4 -> words[0] = words[0] & 0xFFFFFF | oneOf(0, 1, words.length - 2, 16, 17, 128, 255) << 24;
            case 5 -> words[words.length - 1] = oneOf(0, 1, 2, -1, random.nextInt(), Integer.MAX_VALUE);
            case 6 -> words[Math.min(1, words.length - 1)] ^= 1 << random.nextInt(32);
            default -> {
                int kind = words.length == 1 ? oneOf(0, 3, 4) : oneOf(1, 2);
                int count = kind == 1 ? words.length - 2 : 0;
                words[0] = Craft.head(kind, random.nextInt(streams), waitedFor, random.nextInt(3), count);
            }
        }
        if (random.nextInt(3) == 0) {
            words[0] = words[0] & ~0xFF00 | waitedFor << 8;
        }
    }

    private void compareState() {
        for (int side = 0; side < 2; side++) {
            for (int what = -1; what <= 12; what++) {
                due("side(" + side + ", " + what + ")", x.side(side, what), model.side(side, what));
                int stream = random.nextInt(streams);
                due("stream(" + side + ", " + stream + ", " + what + ")",
                    x.stream(side, stream, what), model.stream(side, stream, what));
            }
            int i = random.nextInt(22) - 1;
            for (int k = -1; k < 20; k++) {
                due("wire(" + side + ", " + i + ", " + k + ")", x.wire(side, i, k), model.wire(side, i, k));
                due("wire(" + side + ", 0, " + k + ")", x.wire(side, 0, k), model.wire(side, 0, k));
            }
        }
    }
}
