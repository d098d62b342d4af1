/** Counts the answers that are not the ones that are due, and ends the program by them. */
final class Checks {
    private int asked;
    private int wrong;

    void due(String call, long got, long want) {
        asked++;
        if (got != want) {
            wrong++;
            System.out.println(call + " answered " + got + ", due is " + want);
        }
    }

    void due(String call, boolean got, boolean want) {
        due(call, got ? 1 : 0, want ? 1 : 0);
    }

    /** What stream() tells of a stream, all of it at once, in the order of its numbers. */
    void dueStream(String when, StreamWires x, int side, int stream, int... want) {
        for (int what = 0; what < want.length; what++) {
            due(when + ": stream(" + side + ", " + stream + ", " + what + ")", x.stream(side, stream, what), want[what]);
        }
    }

    /** What side() tells of a side, all of it at once, in the order of its numbers. */
    void dueSide(String when, StreamWires x, int side, int... want) {
        for (int what = 0; what < want.length; what++) {
            due(when + ": side(" + side + ", " + what + ")", x.side(side, what), want[what]);
        }
    }

    /** Frame i of a wire, word by word, with nothing behind its last word. */
    void dueFrame(String when, StreamWires x, int side, int i, int... want) {
        for (int k = 0; k < want.length; k++) {
            due(when + ": wire(" + side + ", " + i + ", " + k + ")", x.wire(side, i, k), want[k]);
        }
        due(when + ": wire(" + side + ", " + i + ", " + want.length + ")", x.wire(side, i, want.length), 0);
    }

    void end() {
        System.out.println(wrong == 0 ? "all " + asked + " answers are as due" : wrong + " of " + asked + " answers are not as due");
        if (wrong != 0) {
            System.exit(1);
        }
    }
}
