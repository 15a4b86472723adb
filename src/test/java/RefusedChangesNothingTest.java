import java.util.ArrayList;
import java.util.List;

/**
 * 'A refused call changes nothing': after each kind of refusal the calls that follow answer as those
 * of a twin and of the model, neither of which was asked for the refused call.
 */
public final class RefusedChangesNothingTest {
    private static final int BAD = StreamAssembler.BAD;
    private static final int FLOW = StreamAssembler.FLOW;
    private static final int FINAL = StreamAssembler.FINAL;
    private static final int NOTHING = StreamAssembler.NOTHING;
    private static final int ENDED = StreamAssembler.ENDED;
    private static final int LEAST = Integer.MIN_VALUE;
    private static final int GREATEST = Integer.MAX_VALUE;
    private static final int[] WRONG_STREAMS = {-1, 4, 5, -4, GREATEST, LEAST};

    public static void main(String[] args) {
        pieceBad();
        pieceFinal();
        pieceAboveTheLimit();
        pieceBeyondTheSum();
        finishBad();
        finishOtherEnd();
        finishBelowTheHighest();
        finishAboveTheLimit();
        finishBeyondTheSum();
        readBad();
        readEnded();
        readNothing();
        questionsBad();
        gapNothing();
        Due.end();
    }

    private static void kind(String kind) {
        Due.sentence("A refused call changes nothing (" + kind + ")");
    }

    private static void pieceBad() {
        kind("piece: BAD, the stream");
        for (int stream : WRONG_STREAMS) {
            inEveryState(Call.piece(stream, 0, 4, -1));
        }
        kind("piece: BAD, the length");
        int[] lengths = {0, 5, -1, LEAST, GREATEST};
        for (int s = 0; s < 4; s++) {
            for (int length : lengths) {
                inEveryState(Call.piece(s, 0, length, -1));
                inEveryState(Call.piece(s, 4, length, -1));
            }
        }
        kind("piece: BAD, the offset");
        int[] offsets = {-1, -3, 1001, LEAST, GREATEST};
        for (int s = 0; s < 4; s++) {
            for (int offset : offsets) {
                inEveryState(Call.piece(s, offset, 4, -1));
            }
        }
    }

    private static void inEveryState(Call call) {
        for (State state : State.values()) {
            refused(state, call, BAD);
        }
    }

    private static void pieceFinal() {
        kind("piece: FINAL");
        refused(State.GAPS, Call.piece(2, 3, 4, -1), FINAL);
        refused(State.GAPS, Call.piece(2, 6, 1, -1), FINAL);
        refused(State.FULL, Call.piece(2, 7, 4, -1), FINAL);
        refused(State.ENDS, Call.piece(0, 0, 1, -1), FINAL);
        refused(State.ENDS, Call.piece(1, 1, 4, -1), FINAL);
        refused(State.ENDS, Call.piece(1, 4, 1, -1), FINAL);
        refused(State.ENDS, Call.piece(2, 21, 4, -1), FINAL);
        refused(State.ENDS, Call.piece(3, 7, 2, -1), FINAL);
        refused(State.LONGEST_ENDED, Call.piece(2, 237, 4, -1), FINAL);
        refused(State.LONGEST_ENDED, Call.piece(2, 240, 1, -1), FINAL);
        refused(State.ONE_SHORT, Call.piece(3, 237, 4, -1), FINAL);
        refused(State.ONE_SHORT, Call.piece(3, 1000, 4, -1), FINAL);
    }

    private static void pieceAboveTheLimit() {
        kind("piece: FLOW, the limit");
        for (int s = 0; s < 4; s++) {
            refused(State.NEW, Call.piece(s, 21, 4, -1), FLOW);
            refused(State.NEW, Call.piece(s, 24, 1, -1), FLOW);
            refused(State.NEW, Call.piece(s, 1000, 4, -1), FLOW);
        }
        refused(State.GAPS, Call.piece(0, 22, 4, -1), FLOW);
        refused(State.GAPS, Call.piece(1, 21, 4, -1), FLOW);
        refused(State.ALMOST_FULL, Call.piece(0, 21, 4, -1), FLOW);
        refused(State.LATE, Call.piece(1, 237, 4, -1), FLOW);
        refused(State.LATE, Call.piece(1, 240, 1, -1), FLOW);
        refused(State.LONGEST, Call.piece(0, 237, 4, -1), FLOW);
        refused(State.LONGEST, Call.piece(0, 240, 4, -1), FLOW);
    }

    private static void pieceBeyondTheSum() {
        kind("piece: FLOW, the sum");
        refused(State.FULL, Call.piece(1, 19, 4, -1), FLOW);
        refused(State.FULL, Call.piece(1, 22, 1, -1), FLOW);
        refused(State.FULL, Call.piece(3, 0, 1, -1), FLOW);
        refused(State.FULL, Call.piece(3, 0, 4, -1), FLOW);
        refused(State.ALMOST_FULL, Call.piece(1, 20, 4, -1), FLOW);
        refused(State.ALMOST_FULL, Call.piece(3, 0, 2, -1), FLOW);
        refused(State.ALMOST_FULL, Call.piece(3, 1, 1, -1), FLOW);
    }

    private static void finishBad() {
        kind("finish: BAD, the stream");
        for (int stream : WRONG_STREAMS) {
            inEveryState(Call.finish(stream, 0));
            inEveryState(Call.finish(stream, 8));
        }
        kind("finish: BAD, the end");
        for (int s = 0; s < 4; s++) {
            inEveryState(Call.finish(s, -1));
            inEveryState(Call.finish(s, LEAST));
        }
    }

    private static void finishOtherEnd() {
        kind("finish: FINAL, another end is known");
        refused(State.GAPS, Call.finish(2, 5), FINAL);
        refused(State.GAPS, Call.finish(2, 7), FINAL);
        refused(State.GAPS, Call.finish(2, 0), FINAL);
        refused(State.FULL, Call.finish(2, 9), FINAL);
        refused(State.FULL, Call.finish(2, 11), FINAL);
        refused(State.ENDS, Call.finish(0, 1), FINAL);
        refused(State.ENDS, Call.finish(1, 3), FINAL);
        refused(State.ENDS, Call.finish(1, 5), FINAL);
        refused(State.ENDS, Call.finish(2, 23), FINAL);
        refused(State.ENDS, Call.finish(2, 25), FINAL);
        refused(State.ENDS, Call.finish(3, 7), FINAL);
        refused(State.LONGEST_ENDED, Call.finish(2, 239), FINAL);
        refused(State.LONGEST_ENDED, Call.finish(2, 241), FINAL);
        refused(State.ONE_SHORT, Call.finish(3, 239), FINAL);
        refused(State.ONE_SHORT, Call.finish(3, GREATEST), FINAL);
    }

    private static void finishBelowTheHighest() {
        kind("finish: FINAL, below the highest");
        refused(State.GAPS, Call.finish(0, 6), FINAL);
        refused(State.GAPS, Call.finish(0, 1), FINAL);
        refused(State.GAPS, Call.finish(0, 0), FINAL);
        refused(State.GAPS, Call.finish(1, 3), FINAL);
        refused(State.FULL, Call.finish(0, 23), FINAL);
        refused(State.FULL, Call.finish(1, 21), FINAL);
        refused(State.LATE, Call.finish(1, 233), FINAL);
        refused(State.LATE, Call.finish(1, 216), FINAL);
        refused(State.LONGEST, Call.finish(0, 239), FINAL);
        refused(State.LONGEST, Call.finish(0, 0), FINAL);
    }

    private static void finishAboveTheLimit() {
        kind("finish: FLOW, the limit");
        for (int s = 0; s < 4; s++) {
            refused(State.NEW, Call.finish(s, 25), FLOW);
            refused(State.NEW, Call.finish(s, GREATEST), FLOW);
        }
        refused(State.GAPS, Call.finish(0, 26), FLOW);
        refused(State.GAPS, Call.finish(1, 25), FLOW);
        refused(State.ALMOST_FULL, Call.finish(0, 25), FLOW);
        refused(State.LATE, Call.finish(1, 241), FLOW);
        refused(State.LONGEST, Call.finish(0, 241), FLOW);
        refused(State.LONGEST, Call.finish(0, GREATEST), FLOW);
    }

    private static void finishBeyondTheSum() {
        kind("finish: FLOW, the sum");
        refused(State.FULL, Call.finish(1, 23), FLOW);
        refused(State.FULL, Call.finish(1, 24), FLOW);
        refused(State.FULL, Call.finish(3, 1), FLOW);
        refused(State.FULL, Call.finish(3, 24), FLOW);
        refused(State.ALMOST_FULL, Call.finish(1, 24), FLOW);
        refused(State.ALMOST_FULL, Call.finish(3, 2), FLOW);
    }

    private static void readBad() {
        kind("read: BAD");
        for (int stream : WRONG_STREAMS) {
            inEveryState(Call.read(stream));
        }
    }

    private static void readEnded() {
        kind("read: ENDED");
        refused(State.ENDS, Call.read(0), ENDED);
        refused(State.ENDS, Call.read(1), ENDED);
        refused(State.LONGEST_ENDED, Call.read(2), ENDED);
    }

    private static void readNothing() {
        kind("read: NOTHING");
        for (int s = 0; s < 4; s++) {
            refused(State.NEW, Call.read(s), NOTHING);
        }
        for (int s = 1; s < 4; s++) {
            refused(State.GAPS, Call.read(s), NOTHING);
        }
        refused(State.FULL, Call.read(1), NOTHING);
        refused(State.FULL, Call.read(3), NOTHING);
        refused(State.ENDS, Call.read(2), NOTHING);
        refused(State.LATE, Call.read(1), NOTHING);
        refused(State.LONGEST, Call.read(0), NOTHING);
        refused(State.ONE_SHORT, Call.read(3), NOTHING);
    }

    private static void questionsBad() {
        String[] questions = {"readable", "highest", "gaps", "gap", "allowed", "complete"};
        for (String question : questions) {
            kind(question + ": BAD");
            for (int stream : WRONG_STREAMS) {
                inEveryState(Call.of(question, stream));
            }
        }
    }

    private static void gapNothing() {
        kind("gap: NOTHING");
        for (State state : State.values()) {
            for (int s = 0; s < 4; s++) {
                refused(state, Call.gap(s, -1), NOTHING);
                refused(state, Call.gap(s, LEAST), NOTHING);
                refused(state, Call.gap(s, 12), NOTHING);
                refused(state, Call.gap(s, GREATEST), NOTHING);
            }
        }
        refused(State.GAPS, Call.gap(0, 1), NOTHING);
        refused(State.GAPS, Call.gap(2, 2), NOTHING);
        refused(State.ENDS, Call.gap(1, 0), NOTHING);
    }

    /** Asks once, and on another object twice, as a second change could undo the first. */
    private static void refused(State state, Call call, int answer) {
        for (List<Call> after : waysOn(state)) {
            asIfNotMade(state, call, answer, 1, after);
            asIfNotMade(state, call, answer, 2, after);
        }
    }

    private static void asIfNotMade(State state, Call call, int answer, int times, List<Call> after) {
        StreamAssembler touched = state.make();
        StreamAssembler twin = state.make();
        Model model = state.model();
        String in = " in the state " + state;
        for (int k = 0; k < times; k++) {
            Due.due(call + in, call.on(touched), answer);
        }
        for (Call next : after) {
            int got = next.on(touched);
            Due.due(next + " after " + call + in + ", as a twin", got, next.on(twin));
            Due.due(next + " after " + call + in, got, next.on(model));
        }
    }

    /** Calls that tell a change: all questions and reads, and the pieces and the ends around each highest. */
    private static List<List<Call>> waysOn(State state) {
        Model model = state.model();
        List<List<Call>> ways = new ArrayList<>();
        List<Call> readAll = questions();
        for (int s = 0; s < 4; s++) {
            reads(readAll, s);
        }
        readAll.addAll(questions());
        ways.add(readAll);
        for (int s = 0; s < 4; s++) {
            int highest = model.highest(s);
            List<Call> pieces = new ArrayList<>();
            for (int offset = Math.max(0, highest - 26); offset <= highest + 26; offset++) {
                pieces.add(Call.piece(s, offset, 1, 0xA5));
            }
            reads(pieces, s);
            pieces.addAll(questions());
            ways.add(pieces);
            // From far above downwards, so that the first end that is not refused tells the limit.
            List<Call> ends = new ArrayList<>();
            for (int end = highest + 30; end >= highest - 3; end--) {
                ends.add(Call.finish(s, end));
            }
            ends.addAll(questions());
            ways.add(ends);
        }
        return ways;
    }

    private static void reads(List<Call> calls, int stream) {
        for (int k = 0; k < 26; k++) {
            calls.add(Call.read(stream));
        }
    }

    private static List<Call> questions() {
        List<Call> calls = new ArrayList<>();
        for (int s = 0; s < 4; s++) {
            calls.add(Call.of("readable", s));
            calls.add(Call.of("highest", s));
            calls.add(Call.of("gaps", s));
            for (int number = 0; number < 3; number++) {
                calls.add(Call.gap(s, number));
            }
            calls.add(Call.of("allowed", s));
            calls.add(Call.of("complete", s));
        }
        return calls;
    }
}
