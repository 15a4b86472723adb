/**
 * Promise 11: BAD for a wrong stream and for nothing else, and read bytes stay known; most of its words
 * on allowed are tested with promise 9.
 */
public final class Promise11OrderAndLimitsTest {
    private static final int BAD = StreamAssembler.BAD;
    private static final int NOTHING = StreamAssembler.NOTHING;
    private static final String[] CALLS = {"read", "readable", "highest", "gaps", "gap", "allowed", "complete"};

    public static void main(String[] args) {
        badForAWrongStream();
        badForNothingElse();
        gapBelow0();
        readBytesStayKnown();
        allowedIsTheLesser();
        Due.end();
    }

    private static void badForAWrongStream() {
        Due.sentence("BAD is the answer if stream is not from 0 to 3");
        int[] wrong = {-1, 4, -2, 5, 240, 960, 1 << 30, Integer.MAX_VALUE, Integer.MIN_VALUE};
        for (State state : State.values()) {
            for (String name : CALLS) {
                StreamAssembler x = state.make();
                String before = Due.look(x);
                for (int stream : wrong) {
                    Call call = Call.of(name, stream);
                    Due.due(call + " in the state " + state, call.on(x), BAD);
                }
                Due.unchanged(name + " of wrong streams in the state " + state, x, before);
            }
        }
    }

    private static void badForNothingElse() {
        Due.sentence("and for nothing else");
        int[] numbers = {Integer.MIN_VALUE, -2, -1, 0, 1, 12, 1000, Integer.MAX_VALUE};
        for (State state : State.values()) {
            for (int stream = 0; stream <= 3; stream++) {
                for (String name : CALLS) {
                    Call call = Call.of(name, stream);
                    int got = call.on(state.make());
                    Due.due(call + " in the state " + state, got, call.on(state.model()));
                    if (got == BAD) {
                        Due.fault(call + " answered BAD in the state " + state);
                    }
                }
                for (int number : numbers) {
                    if (state.make().gap(stream, number) == BAD) {
                        Due.fault("gap " + number + " answered BAD in the state " + state);
                    }
                }
            }
        }
    }

    private static void gapBelow0() {
        Due.sentence("gap with a number below 0 answers NOTHING");
        for (State state : State.values()) {
            StreamAssembler x = state.make();
            Model model = state.model();
            for (int s = 0; s < 4; s++) {
                String of = " of stream " + s + " in the state " + state;
                Due.due("gap -1" + of, x.gap(s, -1), NOTHING);
                Due.due("gap least" + of, x.gap(s, Integer.MIN_VALUE), NOTHING);
                Due.due("gap 0" + of, x.gap(s, 0), model.gap(s, 0));
            }
        }
    }

    private static void readBytesStayKnown() {
        Due.sentence("A byte that has been read stays known.");
        for (int s = 0; s < 4; s++) {
            StreamAssembler x = Due.readUpTo(s, 6);
            Due.due("highest", x.highest(s), 6);
            for (int offset = 0; offset < 6; offset++) {
                Due.due("byte " + offset + " again", x.piece(s, offset, 1, -1), 0);
            }
            Due.due("byte 6, the first that is not read", x.piece(s, 6, 1, -1), 1);
            Due.due("piece over read and new bytes", x.piece(s, 5, 4, -1), 2);
            Due.due("highest", x.highest(s), 9);
            Due.due("gaps", x.gaps(s), 0);
            Due.due("readable", x.readable(s), 3);
            Due.due("end below the read bytes", x.finish(s, 5), StreamAssembler.FINAL);
        }
        StreamAssembler y = Due.readUpTo(0, 30);
        Due.due("allowed of another stream", y.allowed(1), 24);
        Due.due("the first byte, long read", y.piece(0, 0, 4, 0), 0);
        Due.due("highest", y.highest(0), 30);
    }

    private static void allowedIsTheLesser() {
        Due.sentence("the lesser of the limit of the stream and of its highest plus what is left (in every state)");
        for (State state : State.values()) {
            StreamAssembler x = state.make();
            Model model = state.model();
            int left = 56;
            for (int s = 0; s < 4; s++) {
                left += model.readPoint(s) - model.highest(s);
            }
            for (int s = 0; s < 4; s++) {
                int limit = Math.min(model.readPoint(s) + 24, 240);
                int lesser = Math.min(limit, model.highest(s) + left);
                int want = model.endIsKnown(s) ? model.highest(s) : lesser;
                Due.due("allowed(" + s + ") in the state " + state, x.allowed(s), want);
            }
        }
    }
}
