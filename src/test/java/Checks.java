/** Counts the answers that are not the ones that are due, and ends the program by them. */
final class Checks {
    private int asked;
    private int wrong;
    private int sentences;
    private String sentence = "";

    /** From here on each wrong answer is told with this sentence of the document, which it breaks. */
    void sentence(String words) {
        sentences++;
        sentence = "\"" + words + "\": ";
    }

    void due(String call, long got, long want) {
        asked++;
        if (got != want) {
            wrong++;
            System.out.println(sentence + call + " answered " + got + ", due is " + want);
        }
    }

    void due(String call, boolean got, boolean want) {
        due(call, got ? 1 : 0, want ? 1 : 0);
    }

    /** What stream() tells of a stream, all of it at once, in the order of its numbers. */
    void dueStream(String when, StreamWires x, int side, int stream, int... want) {
        for (int what = 0; what < want.length; what++) {
            due(when + ": stream(" + side + ", " + stream + ", " + what + ")", x.stream(side, stream, what), want[what]);
        }
    }

    /** What side() tells of a side, all of it at once, in the order of its numbers. */
    void dueSide(String when, StreamWires x, int side, int... want) {
        for (int what = 0; what < want.length; what++) {
            due(when + ": side(" + side + ", " + what + ")", x.side(side, what), want[what]);
        }
    }

    /** Frame i of a wire, word by word, with nothing behind its last word. */
    void dueFrame(String when, StreamWires x, int side, int i, int... want) {
        for (int k = 0; k < want.length; k++) {
            due(when + ": wire(" + side + ", " + i + ", " + k + ")", x.wire(side, i, k), want[k]);
        }
        due(when + ": wire(" + side + ", " + i + ", " + want.length + ")", x.wire(side, i, want.length), 0);
    }

    /** Two looks at an object (Scenes.look) that must tell the same. */
    void dueSame(String when, int[] before, int[] behind) {
        due(when + ": how much is told", behind.length, before.length);
        for (int i = 0; i < Math.min(before.length, behind.length); i++) {
            due(when + ": what is told at place " + i, behind[i], before[i]);
        }
    }

    void end() {
        String of = sentences == 0 ? "" : " of " + sentences + " sentences";
        System.out.println((wrong == 0 ? "all " + asked : wrong + " of " + asked) + " answers" + of + " are "
            + (wrong == 0 ? "" : "not ") + "as due");
        if (wrong != 0) {
            System.exit(1);
        }
    }
}
