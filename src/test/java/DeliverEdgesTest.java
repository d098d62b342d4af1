/** The edges of DELIVER and TAKEN: a test for each sentence and half sentence of their paragraphs, with forged frames. */
public final class DeliverEdgesTest {
    private static final Checks CHECKS = new Checks();
    private static final int ACK = Craft.ACK, DATA = Craft.DATA, GRANT = Craft.GRANT, OPENING = Craft.OPENING, END = Craft.END;

    public static void main(String[] args) {
        firstFrame();
        spoiltAndNothingElse();
        asManyWords();
        wrongSum();
        noSuchKind();
        noSuchStream();
        noSuchNumber();
        noSuchWanted();
        noSuchCount();
        mustBeNone();
        grantOfNoneOrLess();
        marksBeyondCount();
        marksWord();
        wantedTells();
        wantedOfNumbersThatAreNotOut();
        ackDoesNoMore();
        nextIsWaitedFor();
        ofANewStream();
        ofAShutStream();
        roomForItems();
        grantForANewStream();
        creditAboveKept();
        secondOpening();
        refusedIsSpoiltToo();
        late();
        takenOpening();
        takenOpeningOfOneThatIsNotNew();
        takenData();
        takenGrant();
        takenEnd();
        CHECKS.end();
    }

    /** A frame of two words in place of the opening of stream 1 that comes to side 1, which waits for number 1. */
    private static void dueShort(String when, int want, int head) {
        StreamWires x = Scenes.opening();
        Craft.forge(x, 0, head);
        CHECKS.due(when, x.deliver(0), want);
        CHECKS.due(when + ": counted as spoilt", x.side(1, 10), want == 2 ? 1 : 0);
    }

    /** Words in place of data that come to side 1, which waits for number 1. */
    private static void dueData(String when, int want, int... words) {
        StreamWires x = Scenes.data(words.length - 2);
        Craft.forge(x, 0, words);
        CHECKS.due(when, x.deliver(0), want);
        CHECKS.due(when + ": items that lie there", x.stream(1, 0, 5), want == 1 ? words.length - 2 : 0);
        CHECKS.due(when + ": counted as spoilt", x.side(1, 10), want == 2 ? 1 : 0);
    }

    /** Two words in place of the grant of 2 that comes to side 0, which waits for number 0 and has 7 of 10 of credit. */
    private static void dueGrant(String when, int want, int head, int granted) {
        StreamWires x = Scenes.grant();
        Craft.forge(x, 1, head, granted);
        CHECKS.due(when, x.deliver(1), want);
        CHECKS.due(when + ": credit", x.stream(0, 0, 2), want == 1 ? 7 + granted : 7);
        CHECKS.due(when + ": counted as spoilt", x.side(0, 10), want == 2 ? 1 : 0);
    }

    private static void firstFrame() {
        CHECKS.sentence("DELIVER: the first frame of a wire comes");
        StreamWires x = Scenes.data(1);
        x.send(0, 0, 2);
        x.close(0, 0);
        x.drain(0, 9);
        CHECKS.due("three", x.side(0, 4), 3);
        CHECKS.due("the first", x.deliver(0), 1);
        CHECKS.due("it is gone", x.side(0, 4), 2);
        CHECKS.due("word 1 lies there", x.receive(1, 0), 1);
        CHECKS.due("word 1", x.word(1), 1);
        CHECKS.due("the second", x.deliver(0), 1);
        CHECKS.due("word 2 lies there", x.receive(1, 0), 1);
        CHECKS.due("word 2", x.word(1), 2);
        CHECKS.due("the third", x.deliver(0), 1);
        CHECKS.due("shut", x.stream(1, 0, 1), 1);
        CHECKS.due("empty", x.side(0, 4), 0);
    }

    private static void spoiltAndNothingElse() {
        CHECKS.sentence("It is SPOILT, and nothing else");
        StreamWires x = Scenes.grant();
        int[] before = Scenes.look(x, 3);
        x.corrupt(1, 2, 1);
        CHECKS.due("spoilt", x.deliver(1), 2);
        CHECKS.due("counted", x.side(0, 10), 1);
        CHECKS.due("it is off the wire", x.side(1, 4), 0);
        CHECKS.due("its wanted tells nothing", x.side(0, 1), 1);
        CHECKS.due("it is waited for", x.side(0, 3), 0);
        CHECKS.due("no ack would come", x.side(0, 7), 0);
        x.timeout(1);
        int[] behind = Scenes.look(x, 3);
        // Once more on the wire it leaves two traces: side 0 has counted it, and side 1 has sent it again.
        behind[1 + 10]--;
        behind[1 + 12 + 30 + 1 + 8]--;
        CHECKS.dueSame("but for that all is as it was", before, behind);
        CHECKS.due("taken the second time", x.deliver(1), 1);
    }

    private static void asManyWords() {
        CHECKS.sentence("it has not as many words as it tells");
        dueData("as many", 1, Craft.head(DATA, 0, 1, 0, 2), 0, 1, 2);
        dueData("one more than told", 2, Craft.head(DATA, 0, 1, 0, 1), 0, 1, 2);
        dueData("one fewer than told", 2, Craft.head(DATA, 0, 1, 0, 3), 0, 1, 2);
        dueData("an end with data's words", 2, Craft.head(END, 0, 1, 0, 0), 0, 1);
        dueData("a grant with data's words", 2, Craft.head(GRANT, 0, 1, 0, 0), 1, 1);
        dueShort("data without words", 2, Craft.head(DATA, 0, 1, 0, 1));
        dueShort("a grant without its word", 2, Craft.head(GRANT, 0, 1, 0, 0));
        dueGrant("an ack with a grant's word", 2, Craft.head(ACK, 0, 0, 0, 0), 2);
        dueGrant("an opening with a grant's word", 2, Craft.head(OPENING, 1, 0, 0, 0), 2);
        dueGrant("an end with a grant's word", 2, Craft.head(END, 0, 0, 0, 0), 2);
    }

    private static void wrongSum() {
        CHECKS.sentence("a wrong SUM");
        int[] frame = Craft.sealed(Craft.head(DATA, 0, 1, 0, 1), 0, 5);
        for (int bit = 0; bit < 32; bit++) {
            StreamWires x = Scenes.data(1);
            Craft.forgeWhole(x, 0, frame[0], frame[1], frame[2], frame[3] ^ 1 << bit);
            CHECKS.due("bit " + bit + " of the sum", x.deliver(0), 2);
            x = Scenes.data(1);
            x.corrupt(0, 2, 1 << bit);
            CHECKS.due("bit " + bit + " of the word", x.deliver(0), 2);
        }
        StreamWires x = Scenes.data(1);
        Craft.forgeWhole(x, 0, frame);
        CHECKS.due("a right one", x.deliver(0), 1);
        x = Scenes.data(2);
        x.corrupt(0, 2, 3);
        x.corrupt(0, 3, 3);
        CHECKS.due("words that changed places", x.deliver(0), 2);
        x = Scenes.opening();
        Craft.forgeWhole(x, 0, 0, 65535);
        CHECKS.due("65,535 is not 0 in a sum", x.deliver(0), 2);
        x = Scenes.opening();
        Craft.forgeWhole(x, 0, 0, 0);
        CHECKS.due("0 is the sum of nothing", x.deliver(0), 3);
    }

    private static void noSuchKind() {
        CHECKS.sentence("a KIND that is none");
        dueShort("the last one", 1, Craft.head(OPENING, 1, 1, 0, 0));
        for (int kind = 5; kind <= 7; kind++) {
            dueShort("kind " + kind, 2, Craft.head(kind, 0, 1, 0, 0));
            dueShort("kind " + kind + " of another number: not late", 2, Craft.head(kind, 0, 2, 0, 0));
            dueGrant("kind " + kind + " of three words", 2, Craft.head(kind, 0, 0, 0, 0), 1);
        }
    }

    private static void noSuchStream() {
        CHECKS.sentence("a STREAM that is none");
        dueShort("the last one", 1, Craft.head(OPENING, 2, 1, 0, 0));
        dueShort("one more", 2, Craft.head(OPENING, 3, 1, 0, 0));
        dueShort("8", 2, Craft.head(OPENING, 8, 1, 0, 0));
        dueShort("31", 2, Craft.head(OPENING, 31, 1, 0, 0));
        dueShort("one more, of another number: not late", 2, Craft.head(OPENING, 3, 2, 0, 0));
        dueData("one more", 2, Craft.head(DATA, 3, 1, 0, 1), 0, 1);
        dueGrant("one more", 2, Craft.head(GRANT, 3, 0, 0, 0), 1);
        StreamWires x = new StreamWires(8, 1, 1, 16, 1);
        x.open(0, 7);
        x.pump(0);
        CHECKS.due("7 of eight", x.deliver(0), 1);
        x.timeout(0);
        Craft.forge(x, 0, Craft.head(OPENING, 8, 1, 0, 0));
        CHECKS.due("8 of eight", x.deliver(0), 2);
    }

    private static void noSuchNumber() {
        CHECKS.sentence("a NUMBER that is none");
        dueShort("the last one", 4, Craft.head(OPENING, 1, 3, 0, 0));
        dueShort("one more", 2, Craft.head(OPENING, 1, 4, 0, 0));
        dueShort("128", 2, Craft.head(OPENING, 1, 128, 0, 0));
        dueShort("255", 2, Craft.head(OPENING, 1, 255, 0, 0));
        dueShort("of an end", 2, Craft.head(END, 0, 4, 0, 0));
        dueData("of data", 2, Craft.head(DATA, 0, 4, 0, 1), 0, 1);
        dueGrant("of a grant", 2, Craft.head(GRANT, 0, 4, 0, 0), 1);
        StreamWires x = new StreamWires(1, 1, 15, 16, 1);
        x.open(0, 0);
        x.pump(0);
        Craft.forge(x, 0, Craft.head(OPENING, 0, 16, 0, 0));
        CHECKS.due("16 with the largest window", x.deliver(0), 2);
        x.timeout(0);
        Craft.forge(x, 0, Craft.head(OPENING, 0, 15, 0, 0));
        CHECKS.due("15 with the largest window", x.deliver(0), 4);
    }

    private static void noSuchWanted() {
        CHECKS.sentence("a WANTED that is none");
        dueShort("the last one", 1, Craft.head(OPENING, 1, 1, 3, 0));
        dueShort("one more", 2, Craft.head(OPENING, 1, 1, 4, 0));
        dueShort("255", 2, Craft.head(OPENING, 1, 1, 255, 0));
        dueShort("of another number: not late", 2, Craft.head(OPENING, 1, 2, 4, 0));
        dueShort("an ack of the last one", 3, Craft.head(ACK, 0, 0, 3, 0));
        dueShort("an ack of one more", 2, Craft.head(ACK, 0, 0, 4, 0));
        dueShort("of an end", 2, Craft.head(END, 0, 1, 4, 0));
        dueData("of data", 2, Craft.head(DATA, 0, 1, 4, 1), 0, 1);
        dueGrant("of a grant", 2, Craft.head(GRANT, 0, 0, 4, 0), 1);
    }

    private static void noSuchCount() {
        CHECKS.sentence("a COUNT that is none");
        dueData("one item", 1, Craft.head(DATA, 0, 1, 0, 1), 0, 1);
        dueData("m items", 1, Craft.head(DATA, 0, 1, 0, 4), 0, 1, 2, 3, 4);
        dueData("more than m", 2, Craft.head(DATA, 0, 1, 0, 5), 0, 1, 2, 3, 4);
        dueData("255", 2, Craft.head(DATA, 0, 1, 0, 255), 0, 1, 2, 3, 4);
        // Of the frames that are sent only a grant has the three words that data of no items would have.
        dueGrant("data of no items", 2, Craft.head(DATA, 0, 0, 0, 0), 0);
    }

    private static void mustBeNone() {
        CHECKS.sentence("of KIND 0, 2, 3, 4 something that must be 0 and is not");
        dueShort("an ack", 3, Craft.head(ACK, 0, 0, 0, 0));
        dueShort("an ack's stream", 2, Craft.head(ACK, 1, 0, 0, 0));
        dueShort("an ack's number", 2, Craft.head(ACK, 0, 1, 0, 0));
        dueShort("an ack's count", 2, Craft.head(ACK, 0, 0, 0, 1));
        dueShort("an opening's count", 2, Craft.head(OPENING, 1, 1, 0, 1));
        dueShort("an opening's count of another number: not late", 2, Craft.head(OPENING, 1, 2, 0, 1));
        dueShort("an opening's count of 255", 2, Craft.head(OPENING, 1, 1, 0, 255));
        dueShort("an end's count", 2, Craft.head(END, 0, 1, 0, 1));
        dueShort("an end", 1, Craft.head(END, 0, 1, 0, 0));
        dueGrant("a grant's count", 2, Craft.head(GRANT, 0, 0, 0, 1), 1);
        dueGrant("a grant's count of its words", 2, Craft.head(GRANT, 0, 0, 0, 2), 2);
    }

    private static void grantOfNoneOrLess() {
        CHECKS.sentence("a GRANT of 0 or less");
        int head = Craft.head(GRANT, 0, 0, 0, 0);
        dueGrant("1", 1, head, 1);
        dueGrant("0", 2, head, 0);
        dueGrant("-1", 2, head, -1);
        dueGrant("the least of all", 2, head, Integer.MIN_VALUE);
        dueGrant("0 of another number: not late", 2, Craft.head(GRANT, 0, 1, 0, 0), 0);
    }

    private static void marksBeyondCount() {
        CHECKS.sentence("bits of MARKS beyond COUNT");
        dueData("the last item's", 1, Craft.head(DATA, 0, 1, 0, 2), 2, 1, 0);
        for (int bit = 2; bit < 32; bit++) {
            dueData("bit " + bit, 2, Craft.head(DATA, 0, 1, 0, 2), 1 << bit, 1, 2);
        }
        dueData("all bits", 2, Craft.head(DATA, 0, 1, 0, 2), -1, 0, 0);
        dueData("of another number: not late", 2, Craft.head(DATA, 0, 2, 0, 1), 2, 1);
        for (int bit = 15; bit < 32; bit++) {
            StreamWires x = Scenes.open(1, 16, 3, 400, 9);
            for (int i = 0; i < 15; i++) {
                x.send(0, 0, i);
            }
            x.mark(0, 0);
            x.pump(0);
            int[] words = new int[18];
            words[0] = Craft.head(DATA, 0, 1, 0, 16);
            words[1] = 1 << bit;
            Craft.forge(x, 0, words);
            CHECKS.due("bit " + bit + " of 16 items", x.deliver(0), bit < 16 ? 1 : 2);
        }
    }

    private static void marksWord() {
        CHECKS.sentence("a MARK's word that is not 0");
        int head = Craft.head(DATA, 0, 1, 0, 4);
        for (int item = 0; item < 4; item++) {
            int[] words = {head, 1 << item, 0, 0, 0, 0};
            dueData("0 at " + item, 1, words);
            words[2 + item] = 1;
            dueData("1 at " + item, 2, words);
            words[2 + item] = Integer.MIN_VALUE;
            dueData("the highest bit at " + item, 2, words);
        }
        dueData("the others' words may be", 1, head, 5, 0, 7, 0, 9);
        dueData("of another number: not late", 2, Craft.head(DATA, 0, 2, 0, 1), 1, 1);
    }

    /** W is 3; side 0 has as many frames out, from number 2 on; data with number 0 is on the wire from side 1. */
    private static StreamWires out(int frames) {
        StreamWires x = Scenes.open(1, 1, 3, 60, 9);
        x.send(0, 0, 1);
        Scenes.settle(x);
        for (int i = 0; i < frames; i++) {
            x.send(0, 0, 2);
        }
        CHECKS.due("frames that are out", x.drain(0, 9), frames);
        x.send(1, 0, 3);
        x.pump(1);
        CHECKS.due("the oldest", x.side(0, 2), 2);
        return x;
    }

    /** That data, with another WANTED, comes to side 0. */
    private static void dueWanted(int frames, int wanted, int oldest, int left) {
        StreamWires x = out(frames);
        Craft.forge(x, 1, Craft.head(DATA, 0, 0, wanted, 1), 0, 3);
        CHECKS.due("taken", x.deliver(1), 1);
        String when = frames + " out, wanted " + wanted;
        CHECKS.due(when + ": out", x.side(0, 1), left);
        CHECKS.due(when + ": the oldest", x.side(0, 2), oldest);
        CHECKS.due(when + ": free", x.side(0, 0), 30 - left);
    }

    private static void wantedTells() {
        CHECKS.sentence("WANTED tells that all OUT before it have come (if it is the NUMBER of one that is OUT, or the next one to be given");
        dueWanted(3, 2, 2, 3);
        dueWanted(3, 3, 3, 2);
        dueWanted(3, 0, 0, 1);
        dueWanted(3, 1, 1, 0);
        dueWanted(2, 2, 2, 2);
        dueWanted(2, 3, 3, 1);
        dueWanted(2, 0, 0, 0);
        dueWanted(1, 3, 3, 0);
        dueWanted(0, 2, 2, 0);
    }

    private static void wantedOfNumbersThatAreNotOut() {
        CHECKS.sentence("else it tells nothing");
        dueWanted(2, 1, 2, 2);
        dueWanted(1, 0, 2, 1);
        dueWanted(1, 1, 2, 1);
        dueWanted(0, 3, 2, 0);
        dueWanted(0, 0, 2, 0);
        dueWanted(0, 1, 2, 0);
    }

    private static void ackDoesNoMore() {
        CHECKS.sentence("An ACK does no more");
        StreamWires x = Scenes.data(1);
        x.deliver(0);
        x.pump(1);
        int[] before = Scenes.look(x, 3);
        CHECKS.due("an ack", x.deliver(1), 3);
        int[] behind = Scenes.look(x, 3);
        CHECKS.due("it tells that one came", x.side(0, 1), 0);
        CHECKS.due("the next one is to be given", x.side(0, 2), 2);
        CHECKS.due("a cell is free", x.side(0, 0), 50);
        CHECKS.due("it is not waited for", x.side(0, 3), 0);
        CHECKS.due("it needs no ack", x.side(0, 7), 0);
        for (int what = 9; what <= 11; what++) {
            CHECKS.due("it is not counted", behind[1 + what], before[1 + what]);
        }
        CHECKS.due("nor would it be with the number that is waited for", x.pump(0), 0);
    }

    private static void nextIsWaitedFor() {
        CHECKS.sentence("it is TAKEN, and the next one is waited for");
        StreamWires x = Scenes.open(1, 1, 2, 60, 9);
        for (int i = 1; i < 8; i++) {
            x.send(0, 0, i);
            x.pump(0);
            CHECKS.due("waited for", x.side(1, 3), i % 3);
            CHECKS.due("taken", x.deliver(0), 1);
            CHECKS.due("the next one", x.side(1, 3), (i + 1) % 3);
            CHECKS.due("counted", x.side(1, 9), i + 1);
            x.pump(1);
            x.deliver(1);
        }
    }

    private static void ofANewStream() {
        CHECKS.sentence("DATA, END of a STREAM that is NEW");
        dueData("data of an open one", 1, Craft.head(DATA, 0, 1, 0, 1), 0, 1);
        dueData("data of a new one", 2, Craft.head(DATA, 1, 1, 0, 1), 0, 1);
        dueShort("an end of an open one", 1, Craft.head(END, 0, 1, 0, 0));
        dueShort("an end of a new one", 2, Craft.head(END, 1, 1, 0, 0));
        StreamWires x = Scenes.data(1);
        x.open(1, 1);
        Craft.forge(x, 0, Craft.head(DATA, 1, 1, 0, 1), 0, 1);
        CHECKS.due("data of one that was opened here alone", x.deliver(0), 1);
        CHECKS.due("it lies there", x.receive(1, 1), 1);
        x = Scenes.opening();
        x.open(1, 1);
        Craft.forge(x, 0, Craft.head(END, 1, 1, 0, 0));
        CHECKS.due("an end of one that was opened here alone", x.deliver(0), 1);
        x = Scenes.data(1);
        x.close(1, 0);
        CHECKS.due("data of one that is ending here", x.deliver(0), 1);
        x.close(0, 0);
        x.pump(0);
        CHECKS.due("an end of one that is ending here", x.deliver(0), 1);
    }

    /** Stream 0 is shut at side 1, which waits for number 3; on the wire is the data that was number 1, then the end. */
    private static StreamWires shut() {
        StreamWires x = Scenes.data(1);
        x.close(0, 0);
        x.pump(0);
        Scenes.deliverAll(x, 0);
        x.timeout(0);
        CHECKS.due("shut", x.stream(1, 0, 1), 1);
        CHECKS.due("waited for", x.side(1, 3), 3);
        return x;
    }

    private static void ofAShutStream() {
        CHECKS.sentence("DATA, END of a STREAM that is .. SHUT here");
        StreamWires x = shut();
        Craft.forge(x, 0, Craft.head(DATA, 0, 3, 0, 1), 0, 1);
        CHECKS.due("data", x.deliver(0), 2);
        CHECKS.due("nothing more lies there", x.stream(1, 0, 5), 1);
        Craft.forge(x, 0, Craft.head(END, 0, 3, 0, 0));
        CHECKS.due("a second end", x.deliver(0), 2);
        CHECKS.due("waited for", x.side(1, 3), 3);
        CHECKS.due("spoilt", x.side(1, 10), 2);
        x = shut();
        x.send(1, 0, 4);
        Scenes.settle(x);
        CHECKS.due("the other way is not shut", x.stream(0, 0, 5), 1);
    }

    /** R is 4 and m 3: data of three words and data of one are out of side 0; at side 1 nothing lies or is due. */
    private static StreamWires threeAndOneOut() {
        StreamWires x = Scenes.open(1, 3, 9, 8, 9);
        Scenes.sendWords(x, 0, 0, 1, 2, 3, 4);
        x.drain(0, 9);
        Scenes.deliverAll(x, 0);
        for (int i = 0; i < 4; i++) {
            x.receive(1, 0);
        }
        x.pump(1);
        x.lose(1);
        CHECKS.due("out", x.side(0, 1), 2);
        CHECKS.dueStream("empty", x, 1, 0, 1, 0, 4, 0, 0, 0);
        return x;
    }

    private static int deliverThree(StreamWires x) {
        x.timeout(0);
        Craft.forge(x, 0, Craft.head(DATA, 0, x.side(1, 3), 0, 3), 0, 5, 6, 7);
        int fate = x.deliver(0);
        x.lose(0);
        return fate;
    }

    private static int deliverOne(StreamWires x) {
        x.timeout(0);
        x.lose(0);
        Craft.forge(x, 0, Craft.head(DATA, 0, x.side(1, 3), 0, 1), 0, 8);
        return x.deliver(0);
    }

    /** So many items lie at side 1 and so many are due, of R, which is 4; then data of three comes. */
    private static void dueRoom(int lying, int due, int want) {
        StreamWires x = threeAndOneOut();
        String when = lying + " lie there, " + due + " are due";
        for (int i = 0; i < lying + due; i++) {
            CHECKS.due(when + ": room for one", deliverOne(x), 1);
        }
        for (int i = 0; i < due; i++) {
            x.receive(1, 0);
        }
        CHECKS.due(when, deliverThree(x), want);
        CHECKS.due(when + ": items that lie there then", x.stream(1, 0, 5), lying + (want == 1 ? 3 : 0));
        CHECKS.due(when + ": due then", x.stream(1, 0, 3), due);
        CHECKS.due(when + ": room for one more", deliverOne(x), lying + due + (want == 1 ? 3 : 0) < 4 ? 1 : 2);
    }

    private static void roomForItems() {
        CHECKS.sentence("with more ITEMS than there is room for (R less what lies there and what is DUE)");
        dueRoom(0, 0, 1);
        dueRoom(1, 0, 1);
        dueRoom(2, 0, 2);
        dueRoom(0, 1, 1);
        dueRoom(0, 2, 2);
        dueRoom(1, 1, 2);
        dueRoom(4, 0, 2);
        dueRoom(0, 4, 2);
    }

    private static void grantForANewStream() {
        CHECKS.sentence("a GRANT for one that is NEW here");
        dueGrant("for an open one", 1, Craft.head(GRANT, 0, 0, 0, 0), 1);
        dueGrant("for a new one", 2, Craft.head(GRANT, 1, 0, 0, 0), 1);
        dueGrant("for a new one, of all that there could be", 2, Craft.head(GRANT, 2, 0, 0, 0), 10);
        StreamWires x = Scenes.grant();
        x.close(0, 0);
        CHECKS.due("for one that is ending", x.deliver(1), 1);
        CHECKS.due("credit", x.stream(0, 0, 2), 9);
    }

    private static void creditAboveKept() {
        CHECKS.sentence("a GRANT .. by which CREDIT would be above R");
        int head = Craft.head(GRANT, 0, 0, 0, 0);
        dueGrant("just R", 1, head, 3);
        dueGrant("one above R", 2, head, 4);
        dueGrant("R more", 2, head, 10);
        dueGrant("the largest", 2, head, Integer.MAX_VALUE);
        dueGrant("the largest that is not below 0 with the credit", 2, head, Integer.MAX_VALUE - 7);
        StreamWires x = Scenes.grant();
        x.open(0, 1);
        Craft.forge(x, 1, Craft.head(GRANT, 1, 0, 0, 0), 1);
        CHECKS.due("for one that has R", x.deliver(1), 2);
    }

    private static void secondOpening() {
        CHECKS.sentence("a second OPENING for it");
        dueShort("the first for stream 2", 1, Craft.head(OPENING, 2, 1, 0, 0));
        dueShort("the second for stream 0", 2, Craft.head(OPENING, 0, 1, 0, 0));
        StreamWires x = Scenes.opening();
        x.open(1, 1);
        CHECKS.due("the first, for one that was opened here", x.deliver(0), 1);
        x.timeout(0);
        Craft.forge(x, 0, Craft.head(OPENING, 1, 2, 0, 0));
        CHECKS.due("the second", x.deliver(0), 2);
        StreamWires y = Scenes.opening();
        y.close(1, 0);
        Craft.forge(y, 0, Craft.head(OPENING, 0, 1, 0, 0));
        CHECKS.due("the second, for one that is ending", y.deliver(0), 2);
        StreamWires z = shut();
        z.lose(0);
        Craft.forge(z, 0, Craft.head(OPENING, 0, 3, 0, 0));
        CHECKS.due("the second, for one that is shut", z.deliver(0), 2);
        StreamWires w = Scenes.open(1, 1, 3, 20, 9);
        w.close(1, 0);
        w.pump(1);
        Craft.forge(w, 1, Craft.head(OPENING, 0, 0, 0, 0));
        CHECKS.due("the first from the other side, for one that was opened here", w.deliver(1), 1);
    }

    private static void refusedIsSpoiltToo() {
        CHECKS.sentence("unless it can't be: .. that is SPOILT, too");
        StreamWires x = Scenes.grant();
        Craft.forge(x, 1, Craft.head(GRANT, 0, 0, 2, 0), 4);
        CHECKS.due("refused", x.deliver(1), 2);
        CHECKS.dueSide("counted, still waited for, no ack", x, 0, 50, 0, 2, 0, 0, 1, 1, 0, 2, 0, 1, 0);
        x.timeout(1);
        CHECKS.due("the right one is taken then", x.deliver(1), 1);
    }

    private static void late() {
        CHECKS.sentence("With another NUMBER: it is LATE");
        for (int number = 0; number < 4; number++) {
            dueShort("number " + number, number == 1 ? 1 : 4, Craft.head(OPENING, 1, number, 0, 0));
            dueData("number " + number, number == 1 ? 1 : 4, Craft.head(DATA, 0, number, 0, 1), 0, 1);
            dueShort("what can't be taken, number " + number, number == 1 ? 2 : 4, Craft.head(END, 1, number, 0, 0));
        }
        StreamWires x = Scenes.grant();
        Craft.forge(x, 1, Craft.head(GRANT, 0, 1, 2, 0), 2);
        CHECKS.due("late", x.deliver(1), 4);
        CHECKS.dueSide("counted, its wanted told, an ack would come", x, 0, 50, 0, 2, 0, 0, 1, 1, 1, 2, 0, 0, 1);
        CHECKS.due("it gives nothing", x.stream(0, 0, 2), 7);
    }

    private static void takenOpening() {
        CHECKS.sentence("an OPENING: the STREAM is OPEN here, if it is NEW (with R of CREDIT, and no OPENING of its own)");
        StreamWires x = Scenes.opening();
        CHECKS.dueStream("new", x, 1, 1, 0, 0, 0, 0, 0, 0, 0, 0, 0, 0);
        CHECKS.due("taken", x.deliver(0), 1);
        CHECKS.dueStream("open", x, 1, 1, 1, 0, 10, 0, 0, 0, 0, 0, 0, 0);
        CHECKS.due("nothing but an ack is to be sent", x.pump(1), 50);
        CHECKS.due("send", x.send(1, 1, 5), 1);
        CHECKS.due("data, without an opening", x.pump(1), 2);
        CHECKS.due("data", x.wire(1, 1, 0) & 7, DATA);
    }

    private static void takenOpeningOfOneThatIsNotNew() {
        CHECKS.sentence("the STREAM is OPEN here, if it is NEW");
        StreamWires x = Scenes.opening();
        x.open(1, 1);
        CHECKS.due("taken", x.deliver(0), 1);
        CHECKS.dueStream("its own opening is still to be sent", x, 1, 1, 1, 0, 10, 0, 0, 0, 1, 0, 0, 0);
        StreamWires y = Scenes.opening();
        y.open(1, 1);
        y.send(1, 1, 5);
        y.close(1, 1);
        y.drain(1, 2);
        CHECKS.due("taken", y.deliver(0), 1);
        CHECKS.dueStream("it is still ending, with the credit that it had", y, 1, 1, 2, 0, 9, 0, 0, 0, 0, 1, 0, 0);
    }

    private static void takenData() {
        CHECKS.sentence("DATA: its ITEMS lie there");
        StreamWires x = Scenes.open(1, 3, 9, 20, 9);
        Scenes.sendWords(x, 0, 0, 1, 2);
        x.mark(0, 0);
        x.send(0, 0, 4);
        x.drain(0, 9);
        CHECKS.due("none", x.receive(1, 0), 3);
        x.deliver(0);
        CHECKS.due("three", x.stream(1, 0, 5), 3);
        x.deliver(0);
        CHECKS.due("four", x.stream(1, 0, 5), 4);
        int[] kinds = {1, 1, 2, 1, 3};
        int[] words = {1, 2, 2, 4, 4};
        for (int i = 0; i < kinds.length; i++) {
            CHECKS.due("receive " + i, x.receive(1, 0), kinds[i]);
            CHECKS.due("word " + i, x.word(1), words[i]);
        }
    }

    private static void takenGrant() {
        CHECKS.sentence("a GRANT: so much more CREDIT");
        for (int granted = 1; granted <= 3; granted++) {
            dueGrant("grant of " + granted, 1, Craft.head(GRANT, 0, 0, 0, 0), granted);
        }
        StreamWires x = Scenes.grant();
        x.deliver(1);
        CHECKS.due("at the side where it came", x.stream(0, 0, 2), 9);
        CHECKS.due("not at the other one", x.stream(1, 0, 2), 10);
    }

    private static void takenEnd() {
        CHECKS.sentence("an END: it is SHUT");
        StreamWires x = Scenes.data(2);
        x.close(0, 0);
        x.pump(0);
        x.deliver(0);
        x.deliver(0);
        CHECKS.dueStream("shut, and all else as before", x, 1, 0, 1, 1, 10, 0, 0, 2, 0, 0, 0, 0);
        CHECKS.due("what lies there can be taken", x.receive(1, 0), 1);
        CHECKS.due("more can be sent back", x.send(1, 0, 5), 1);
        CHECKS.due("it can be closed here", x.close(1, 0), 1);
        Scenes.settle(x);
        CHECKS.due("shut at the other side too", x.stream(0, 0, 1), 1);
    }
}
