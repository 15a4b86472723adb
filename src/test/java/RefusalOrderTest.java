/** 'The refusals are tested in the order in which they are listed': where two hold, the earlier one answers. */
public final class RefusalOrderTest {
    private static final int BAD = StreamAssembler.BAD;
    private static final int FLOW = StreamAssembler.FLOW;
    private static final int FINAL = StreamAssembler.FINAL;
    private static final int NOTHING = StreamAssembler.NOTHING;
    private static final int ENDED = StreamAssembler.ENDED;
    private static final int GREATEST = Integer.MAX_VALUE;

    public static void main(String[] args) {
        for (int s = 0; s < 4; s++) {
            pieceBadBeforeFinal(s);
            pieceBadBeforeFlow(s);
            pieceFinalBeforeFlow(s);
            finishBadBeforeFinal(s);
            finishBadBeforeFlow(s);
            finishFinalBeforeFlow(s);
            readEndedBeforeNothing(s);
        }
        badBeforeAll();
        Due.end();
    }

    private static void order(String what) {
        Due.sentence("The refusals are tested in the order in which they are listed (" + what + ")");
    }

    private static StreamAssembler ended(int s, int end) {
        StreamAssembler x = new StreamAssembler();
        Due.due("finish at " + end, x.finish(s, end), 0);
        return x;
    }

    /** Makes what is left 0, by the streams other than s; the highest of s is what it says. */
    private static void takeAll(StreamAssembler x, int s, int highest) {
        Due.reach(x, (s + 1) % 4, 24);
        Due.reach(x, (s + 2) % 4, 24);
        Due.reach(x, (s + 3) % 4, 8 - highest);
    }

    private static void pieceBadBeforeFinal(int s) {
        order("piece: BAD before FINAL");
        StreamAssembler x = ended(s, 2);
        Due.due("offset 1001, beyond the end", x.piece(s, 1001, 1, 1), BAD);
        Due.due("offset -1, beyond the end", x.piece(s, -1, 4, 1), BAD);
        Due.due("length 5, beyond the end", x.piece(s, 2, 5, 1), BAD);
        Due.due("length 0, beyond the end", x.piece(s, 3, 0, 1), BAD);
        Due.due("only beyond the end", x.piece(s, 2, 4, 1), FINAL);
        Due.due("only beyond the end", x.piece(s, 1000, 1, 1), FINAL);
    }

    private static void pieceBadBeforeFlow(int s) {
        order("piece: BAD before FLOW");
        StreamAssembler x = new StreamAssembler();
        Due.due("offset 1001, above the limit", x.piece(s, 1001, 1, 1), BAD);
        Due.due("length 5, above the limit", x.piece(s, 24, 5, 1), BAD);
        Due.due("length 0, above the limit", x.piece(s, 25, 0, 1), BAD);
        Due.due("only above the limit", x.piece(s, 24, 4, 1), FLOW);
        takeAll(x, s, 0);
        Due.due("length 5, beyond the sum", x.piece(s, 0, 5, 1), BAD);
        Due.due("length 0, beyond the sum", x.piece(s, 1, 0, 1), BAD);
        Due.due("offset -1, beyond the sum", x.piece(s, -1, 4, 1), BAD);
        Due.due("only beyond the sum", x.piece(s, 0, 4, 1), FLOW);
    }

    private static void pieceFinalBeforeFlow(int s) {
        order("piece: FINAL before FLOW");
        for (int end = 0; end <= 24; end += 8) {
            StreamAssembler x = ended(s, end);
            Due.due("beyond the end, above the limit", x.piece(s, 24, 1, 1), FINAL);
            Due.due("beyond the end, far above the limit", x.piece(s, 1000, 4, 1), FINAL);
            Due.due("another stream, above the limit", x.piece((s + 1) % 4, 24, 1, 1), FLOW);
        }
        StreamAssembler y = ended(s, 5);
        takeAll(y, s, 5);
        Due.due("beyond the end, beyond the sum", y.piece(s, 5, 1, 1), FINAL);
        Due.due("beyond the end, beyond the sum", y.piece(s, 2, 4, 1), FINAL);
        Due.due("beyond the end, the sum and the limit", y.piece(s, 24, 1, 1), FINAL);
        Due.due("another stream, beyond the sum", y.piece((s + 3) % 4, 3, 1, 1), FLOW);
        StreamAssembler z = Due.readUpTo(s, 240);
        Due.due("above 240, no end", z.piece(s, 240, 1, 1), FLOW);
        Due.due("finish at 240", z.finish(s, 240), 0);
        Due.due("above 240, end 240", z.piece(s, 240, 1, 1), FINAL);
    }

    private static void finishBadBeforeFinal(int s) {
        order("finish: BAD before FINAL");
        StreamAssembler x = ended(s, 3);
        Due.due("below 0, another end known", x.finish(s, -1), BAD);
        Due.due("only another end known", x.finish(s, 0), FINAL);
        StreamAssembler y = new StreamAssembler();
        Due.reach(y, s, 3);
        Due.due("below 0, below the highest", y.finish(s, -1), BAD);
        Due.due("only below the highest", y.finish(s, 0), FINAL);
    }

    private static void finishBadBeforeFlow(int s) {
        order("finish: BAD before FLOW");
        StreamAssembler x = new StreamAssembler();
        takeAll(x, s, 0);
        Due.due("no such stream, above the limit", x.finish(4, 25), BAD);
        Due.due("no such stream, beyond the sum", x.finish(-1, 1), BAD);
        Due.due("below 0, nothing left", x.finish(s, -1), BAD);
        Due.due("only beyond the sum", x.finish(s, 1), FLOW);
        Due.due("not refused", x.finish(s, 0), 0);
    }

    private static void finishFinalBeforeFlow(int s) {
        order("finish: FINAL before FLOW");
        for (int end = 0; end <= 24; end += 8) {
            StreamAssembler x = ended(s, end);
            Due.due("another end, above the limit", x.finish(s, 25), FINAL);
            Due.due("another end, far above the limit", x.finish(s, GREATEST), FINAL);
            Due.due("only above the limit", x.finish((s + 1) % 4, 25), FLOW);
        }
        StreamAssembler y = ended(s, 5);
        takeAll(y, s, 5);
        Due.due("another end, beyond the sum", y.finish(s, 6), FINAL);
        Due.due("another end, beyond the sum and the limit", y.finish(s, 25), FINAL);
        Due.due("only beyond the sum", y.finish((s + 3) % 4, 4), FLOW);
        StreamAssembler z = Due.readUpTo(s, 240);
        Due.due("above 240, no end", z.finish(s, 241), FLOW);
        Due.due("finish at 240", z.finish(s, 240), 0);
        Due.due("above 240, end 240", z.finish(s, 241), FINAL);
    }

    private static void readEndedBeforeNothing(int s) {
        order("read: ENDED before NOTHING");
        Due.due("at the end 0, no byte known", ended(s, 0).read(s), ENDED);
        Due.due("before the end 1, no byte known", ended(s, 1).read(s), NOTHING);
        StreamAssembler x = Due.readUpTo(s, 4);
        Due.due("no end, no byte known", x.read(s), NOTHING);
        Due.due("finish at 4", x.finish(s, 4), 0);
        Due.due("at the end 4, no byte known", x.read(s), ENDED);
        StreamAssembler z = Due.readUpTo(s, 240);
        Due.due("at 240, no end", z.read(s), NOTHING);
        Due.due("finish at 240", z.finish(s, 240), 0);
        Due.due("at the end 240", z.read(s), ENDED);
    }

    private static void badBeforeAll() {
        order("BAD before all, for a stream that is not there");
        int[] wrong = {-1, 4, Integer.MIN_VALUE, GREATEST};
        for (State state : State.values()) {
            StreamAssembler x = state.make();
            for (int stream : wrong) {
                Due.due("piece, " + state, x.piece(stream, 1000, 4, 1), BAD);
                Due.due("piece of length 0, " + state, x.piece(stream, 0, 0, 1), BAD);
                Due.due("finish, " + state, x.finish(stream, 25), BAD);
                Due.due("read, " + state, x.read(stream), BAD);
                Due.due("gap -1, " + state, x.gap(stream, -1), BAD);
                Due.due("gap 12, " + state, x.gap(stream, 12), BAD);
            }
        }
    }
}
