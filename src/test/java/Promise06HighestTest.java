/** Promise 6: highest. */
public final class Promise06HighestTest {
    private static final int FLOW = StreamAssembler.FLOW;
    private static final int FINAL = StreamAssembler.FINAL;

    public static void main(String[] args) {
        ofKnownBytes();
        noneKnown();
        readsDoNotMoveIt();
        refusedCallsDoNotMoveIt();
        theEnd();
        atTheGreatestLength();
        wrongStream();
        Due.end();
    }

    private static void ofKnownBytes() {
        Due.sentence("The highest of the stream (one more than the greatest offset of a known byte)");
        for (int length = 1; length <= 4; length++) {
            StreamAssembler x = new StreamAssembler();
            Due.due("piece at 7", x.piece(2, 7, 4, 0), 4);
            Due.due("up to 11", x.highest(2), 11);
            Due.due("piece one below", x.piece(2, 10 - length, length, 0), Math.max(0, length - 3));
            Due.due("a piece up to one below", x.highest(2), 11);
            Due.due("piece up to it", x.piece(2, 11 - length, length, 0), 0);
            Due.due("a piece up to it", x.highest(2), 11);
            Due.due("piece one above", x.piece(2, 12 - length, length, 0), 1);
            Due.due("a piece up to one above", x.highest(2), 12);
            Due.due("other stream", x.highest(1), 0);
            Due.due("other stream", x.highest(3), 0);
        }
    }

    private static void noneKnown() {
        Due.sentence("The highest of the stream (0 if no byte is known)");
        for (int s = 0; s < 4; s++) {
            StreamAssembler x = new StreamAssembler();
            Due.due("none known", x.highest(s), 0);
            Due.reach(x, s, 1);
            Due.due("byte 0 known", x.highest(s), 1);
            Due.reach(x, s, 2);
            Due.due("byte 1 known", x.highest(s), 2);
        }
    }

    private static void readsDoNotMoveIt() {
        Due.sentence("The highest of the stream (a byte that has been read stays known)");
        StreamAssembler x = new StreamAssembler();
        Due.fill(x, 0, 0, 3);
        for (int read = 1; read <= 3; read++) {
            Due.reads(x, 0, read - 1, read);
            Due.due(read + " of 3 read", x.highest(0), 3);
        }
        Due.due("read refused", x.read(0), StreamAssembler.NOTHING);
        Due.due("a refused read", x.highest(0), 3);
    }

    private static void refusedCallsDoNotMoveIt() {
        Due.sentence("The highest of the stream (a refused call changes nothing)");
        StreamAssembler x = new StreamAssembler();
        Due.reach(x, 2, 11);
        Due.due("refused piece", x.piece(2, 24, 1, 0), FLOW);
        Due.due("a piece above the limit", x.highest(2), 11);
        Due.due("refused finish", x.finish(2, 25), FLOW);
        Due.due("an end above the limit", x.highest(2), 11);
        Due.due("refused finish", x.finish(2, 10), FINAL);
        Due.due("an end below it", x.highest(2), 11);
        Due.reach(x, 1, 24);
        Due.reach(x, 0, 20);
        Due.due("refused piece", x.piece(2, 12, 1, 0), FLOW);
        Due.due("a piece beyond the sum", x.highest(2), 11);
        Due.due("refused finish", x.finish(2, 13), FLOW);
        Due.due("an end beyond the sum", x.highest(2), 11);
    }

    private static void theEnd() {
        Due.sentence("The highest of the stream (the end, once it is known)");
        for (int end = 4; end <= 6; end++) {
            StreamAssembler x = new StreamAssembler();
            Due.reach(x, 3, 4);
            Due.due("finish at " + end, x.finish(3, end), 0);
            Due.due("end " + end, x.highest(3), end);
            Due.due("byte 0", x.piece(3, 0, 1, 0), 1);
            Due.due("end " + end + " after a byte below", x.highest(3), end);
            Due.due("refused piece", x.piece(3, end, 1, 0), FINAL);
            Due.due("end " + end + " after a refused byte", x.highest(3), end);
            Due.due("refused finish", x.finish(3, end + 1), FINAL);
            Due.due("end " + end + " after a refused end", x.highest(3), end);
        }
        StreamAssembler y = new StreamAssembler();
        Due.due("finish at 0", y.finish(0, 0), 0);
        Due.due("end 0", y.highest(0), 0);
    }

    private static void atTheGreatestLength() {
        Due.sentence("The highest of the stream (up to 240)");
        StreamAssembler x = Due.readUpTo(1, 239);
        Due.due("239", x.highest(1), 239);
        Due.readTo(x, 1, 239, 240);
        Due.due("240", x.highest(1), 240);
        Due.due("byte 240", x.piece(1, 240, 1, 0), FLOW);
        Due.due("still 240", x.highest(1), 240);
        Due.due("finish at 240", x.finish(1, 240), 0);
        Due.due("end 240", x.highest(1), 240);
    }

    private static void wrongStream() {
        Due.sentence("BAD");
        StreamAssembler x = new StreamAssembler();
        for (int s = 0; s < 4; s++) {
            Due.reach(x, s, s + 5);
        }
        int[] wrong = {-1, 4, -2, 5, 1 << 30, Integer.MAX_VALUE, Integer.MIN_VALUE};
        for (int stream : wrong) {
            Due.due("highest(" + stream + ")", x.highest(stream), StreamAssembler.BAD);
        }
        for (int s = 0; s < 4; s++) {
            Due.due("highest(" + s + ")", x.highest(s), s + 5);
        }
    }
}
