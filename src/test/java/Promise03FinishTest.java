/** Promise 3: finish. */
public final class Promise03FinishTest {
    private static final int BAD = StreamAssembler.BAD;
    private static final int FLOW = StreamAssembler.FLOW;
    private static final int FINAL = StreamAssembler.FINAL;

    public static void main(String[] args) {
        anEndComes();
        wrongArguments();
        anotherEnd();
        belowTheHighest();
        beyondTheLimit();
        limitNeverAbove240();
        beyondTheSum();
        orderOfRefusals();
        Due.end();
    }

    private static void anEndComes() {
        for (int s = 0; s < 4; s++) {
            StreamAssembler x = new StreamAssembler();
            Due.due("finish(" + s + ", 5)", x.finish(s, 5), 0);
            for (int other = 0; other < 4; other++) {
                Due.due("highest(" + other + ")", x.highest(other), other == s ? 5 : 0);
            }
            Due.due("piece beyond", x.piece(s, 5, 1, 1), FINAL);
            Due.due("readable", x.readable(s), 0);
            Due.due("read", x.read(s), StreamAssembler.NOTHING);
        }
        StreamAssembler x = new StreamAssembler();
        Due.due("finish(1, 0)", x.finish(1, 0), 0);
        Due.due("finish(1, 0) again", x.finish(1, 0), 0);
        Due.due("finish(1, 1)", x.finish(1, 1), FINAL);
        Due.due("complete", x.complete(1), 1);
    }

    private static void wrongArguments() {
        StreamAssembler x = new StreamAssembler();
        String before = Due.look(x);
        int[] wrongStreams = {-1, 4, 1 << 30, Integer.MAX_VALUE, Integer.MIN_VALUE};
        for (int stream : wrongStreams) {
            Due.due("finish(" + stream + ", 0)", x.finish(stream, 0), BAD);
        }
        Due.due("finish(0, -1)", x.finish(0, -1), BAD);
        Due.due("finish(0, least)", x.finish(0, Integer.MIN_VALUE), BAD);
        Due.due("finish(0, greatest)", x.finish(0, Integer.MAX_VALUE), FLOW);
        Due.due("finish(0, 1001)", x.finish(0, 1001), FLOW);
        Due.unchanged("wrong ends", x, before);
    }

    private static void anotherEnd() {
        StreamAssembler x = new StreamAssembler();
        Due.due("finish(2, 9)", x.finish(2, 9), 0);
        String before = Due.look(x);
        Due.due("finish(2, 8)", x.finish(2, 8), FINAL);
        Due.due("finish(2, 10)", x.finish(2, 10), FINAL);
        Due.due("finish(2, 0)", x.finish(2, 0), FINAL);
        Due.due("finish(2, 9) again", x.finish(2, 9), 0);
        Due.unchanged("other ends", x, before);
    }

    private static void belowTheHighest() {
        StreamAssembler x = new StreamAssembler();
        Due.due("piece", x.piece(0, 6, 2, 1), 2);
        String before = Due.look(x);
        Due.due("finish one below the highest", x.finish(0, 7), FINAL);
        Due.unchanged("an end below the highest", x, before);
        Due.due("the end is still open", x.piece(0, 8, 1, 1), 1);
        Due.due("finish at the highest", x.finish(0, 9), 0);
        StreamAssembler y = new StreamAssembler();
        Due.readTo(y, 0, 3);
        Due.due("finish below the read point", y.finish(0, 2), FINAL);
        Due.due("finish at the read point", y.finish(0, 3), 0);
    }

    private static void beyondTheLimit() {
        StreamAssembler x = new StreamAssembler();
        String before = Due.look(x);
        Due.due("finish(3, 25)", x.finish(3, 25), FLOW);
        Due.unchanged("an end beyond the limit", x, before);
        Due.readTo(x, 3, 1);
        Due.due("finish(3, 26) from read point 1", x.finish(3, 26), FLOW);
        Due.due("finish(3, 25) from read point 1", x.finish(3, 25), 0);
    }

    private static void limitNeverAbove240() {
        StreamAssembler x = new StreamAssembler();
        Due.readTo(x, 1, 230);
        Due.due("finish(1, 241)", x.finish(1, 241), FLOW);
        Due.due("finish(1, 240)", x.finish(1, 240), 0);
    }

    private static void beyondTheSum() {
        StreamAssembler x = new StreamAssembler();
        Due.due("stream 0", x.finish(0, 24), 0);
        Due.due("stream 1", x.piece(1, 21, 1, 1), 1);
        Due.due("stream 2 known to 4", x.piece(2, 3, 1, 1), 1);
        String before = Due.look(x);
        Due.due("stream 2, sum 57", x.finish(2, 11), FLOW);
        Due.due("stream 3, sum 57", x.finish(3, 7), FLOW);
        Due.unchanged("ends beyond the sum", x, before);
        Due.due("stream 2, sum 56", x.finish(2, 10), 0);
        Due.due("stream 2, sum 56, again", x.finish(2, 10), 0);
        Due.due("stream 0 again", x.finish(0, 24), 0);
        Due.due("stream 1 at its highest", x.finish(1, 22), 0);
        Due.due("stream 3, sum 57", x.finish(3, 1), FLOW);
        Due.due("stream 3, empty", x.finish(3, 0), 0);
    }

    private static void orderOfRefusals() {
        StreamAssembler x = new StreamAssembler();
        Due.due("finish(0, 24)", x.finish(0, 24), 0);
        Due.due("BAD before FINAL", x.finish(0, -1), BAD);
        Due.due("FINAL before FLOW", x.finish(0, 25), FINAL);
        Due.due("FINAL before FLOW, greatest", x.finish(0, Integer.MAX_VALUE), FINAL);
        Due.due("BAD before FLOW", x.finish(4, 25), BAD);
    }
}
