/** Promise 3: finish. */
public final class Promise03FinishTest {
    private static final int BAD = StreamAssembler.BAD;
    private static final int FLOW = StreamAssembler.FLOW;
    private static final int FINAL = StreamAssembler.FINAL;
    private static final int NOTHING = StreamAssembler.NOTHING;
    private static final int ENDED = StreamAssembler.ENDED;
    private static final int LEAST = Integer.MIN_VALUE;
    private static final int GREATEST = Integer.MAX_VALUE;

    public static void main(String[] args) {
        exactlyEndBytes();
        wrongStream();
        endBelow0();
        anotherEnd();
        belowTheHighest();
        belowTheReadPoint();
        aboveTheLimit();
        neverAbove240();
        beyondTheSum();
        theSameEndWithTheSumFull();
        theEndIsKnown();
        Due.end();
    }

    private static void exactlyEndBytes() {
        Due.sentence("the stream has exactly end bytes");
        int[] ends = {0, 1, 2, 23, 24};
        for (int end : ends) {
            for (int s = 0; s < 4; s++) {
                StreamAssembler x = new StreamAssembler();
                Due.due("finish(" + s + ", " + end + ")", x.finish(s, end), 0);
                Due.due("a byte at the end " + end, x.piece(s, end, 1, 1), FINAL);
                Due.fill(x, s, 0, end);
                Due.due("readable", x.readable(s), end);
                Due.reads(x, s, 0, end);
                Due.due("read at the end " + end, x.read(s), ENDED);
                Due.due("complete", x.complete(s), 1);
            }
        }
    }

    private static void wrongStream() {
        Due.sentence("BAD if stream is not from 0 to 3");
        int[] wrong = {-1, 4, -2, 5, 1 << 30, GREATEST, LEAST};
        StreamAssembler x = new StreamAssembler();
        String before = Due.look(x);
        for (int stream : wrong) {
            Due.due("finish(" + stream + ", 0)", x.finish(stream, 0), BAD);
            Due.due("finish(" + stream + ", 9)", x.finish(stream, 9), BAD);
        }
        Due.unchanged("ends of wrong streams", x, before);
        for (int stream = 0; stream <= 3; stream++) {
            Due.due("finish(" + stream + ", 9)", x.finish(stream, 9), 0);
        }
    }

    private static void endBelow0() {
        Due.sentence("or end is below 0");
        int[] wrong = {-1, -2, -24, LEAST, LEAST + 1};
        for (int s = 0; s < 4; s++) {
            StreamAssembler x = new StreamAssembler();
            String before = Due.look(x);
            for (int end : wrong) {
                Due.due("finish(" + s + ", " + end + ")", x.finish(s, end), BAD);
            }
            Due.unchanged("ends below 0", x, before);
            Due.due("no end has come", x.read(s), NOTHING);
            Due.due("finish(" + s + ", 0)", x.finish(s, 0), 0);
            Due.due("finish(" + s + ", -1) after it", x.finish(s, -1), BAD);
            Due.due("finish(" + s + ", 1)", new StreamAssembler().finish(s, 1), 0);
        }
    }

    private static void anotherEnd() {
        Due.sentence("FINAL if an end is known and is not the same");
        int[] ends = {0, 1, 9, 23, 24};
        for (int s = 0; s < 4; s++) {
            for (int end : ends) {
                StreamAssembler x = new StreamAssembler();
                Due.due("finish at " + end, x.finish(s, end), 0);
                String before = Due.look(x);
                Due.due("one more than " + end, x.finish(s, end + 1), FINAL);
                Due.due("one less than " + end, x.finish(s, end - 1), end == 0 ? BAD : FINAL);
                Due.due("the same", x.finish(s, end), 0);
                Due.due("the greatest", x.finish(s, GREATEST), FINAL);
                Due.due("0", x.finish(s, 0), end == 0 ? 0 : FINAL);
                Due.unchanged("other ends", x, before);
            }
            StreamAssembler y = Due.readUpTo(s, 4);
            Due.due("finish at 4", y.finish(s, 4), 0);
            Due.due("one more, all read", y.finish(s, 5), FINAL);
            Due.due("one less, all read", y.finish(s, 3), FINAL);
            Due.due("the same, all read", y.finish(s, 4), 0);
        }
    }

    private static void belowTheHighest() {
        Due.sentence("or end is below the highest");
        for (int s = 0; s < 4; s++) {
            for (int highest = 1; highest <= 23; highest += 11) {
                StreamAssembler x = new StreamAssembler();
                Due.reach(x, s, highest);
                String before = Due.look(x);
                Due.due("one below " + highest, x.finish(s, highest - 1), FINAL);
                Due.due("0", x.finish(s, 0), FINAL);
                Due.unchanged("ends below the highest", x, before);
                Due.due("no end has come", x.piece(s, highest, 1, 1), 1);
                Due.due("the old highest", x.finish(s, highest), FINAL);
                Due.due("the highest itself", x.finish(s, highest + 1), 0);
                StreamAssembler y = new StreamAssembler();
                Due.reach(y, s, highest);
                Due.due("one above " + highest, y.finish(s, highest + 1), 0);
            }
        }
    }

    private static void belowTheReadPoint() {
        Due.sentence("or end is below the highest (where all known bytes have been read)");
        for (int end = 2; end <= 4; end++) {
            StreamAssembler x = Due.readUpTo(0, 3);
            Due.due("end " + end + " from read point 3", x.finish(0, end), end < 3 ? FINAL : 0);
            Due.due("read", x.read(0), end == 3 ? ENDED : NOTHING);
        }
        StreamAssembler y = Due.readUpTo(2, 240);
        Due.due("end 239, all read", y.finish(2, 239), FINAL);
        Due.due("end 241, all read", y.finish(2, 241), FLOW);
        Due.due("end 240, all read", y.finish(2, 240), 0);
    }

    private static void aboveTheLimit() {
        Due.sentence("FLOW if end is above the limit of the stream");
        for (int s = 0; s < 4; s++) {
            for (int readPoint = 0; readPoint <= 2; readPoint++) {
                for (int over = -1; over <= 1; over++) {
                    StreamAssembler x = Due.readUpTo(s, readPoint);
                    String before = Due.look(x);
                    int end = readPoint + 24 + over;
                    Due.due("end " + end + " from " + readPoint, x.finish(s, end), over > 0 ? FLOW : 0);
                    if (over > 0) {
                        Due.unchanged("an end above the limit", x, before);
                    }
                }
            }
            StreamAssembler x = new StreamAssembler();
            int[] far = {240, 1000, 1001, GREATEST - 24, GREATEST - 1, GREATEST};
            for (int end : far) {
                Due.due("end " + end, x.finish(s, end), FLOW);
            }
            Due.unchanged("ends far above the limit", x, Due.look(new StreamAssembler()));
        }
    }

    private static void neverAbove240() {
        Due.sentence("FLOW if end is above the limit of the stream (240)");
        for (int readPoint = 216; readPoint <= 240; readPoint += 8) {
            StreamAssembler x = Due.readUpTo(1, readPoint);
            Due.due("end 241 from " + readPoint, x.finish(1, 241), FLOW);
            Due.due("end 239 from " + readPoint, Due.readUpTo(1, readPoint).finish(1, 239), readPoint == 240 ? FINAL : 0);
            Due.due("end 240 from " + readPoint, x.finish(1, 240), 0);
        }
    }

    private static void beyondTheSum() {
        Due.sentence("or if the sum of the highests would go beyond what is allowed");
        for (int s = 0; s < 4; s++) {
            for (int over = -1; over <= 1; over++) {
                StreamAssembler x = new StreamAssembler();
                Due.due("finish", x.finish((s + 1) % 4, 24), 0);
                Due.reach(x, (s + 2) % 4, 20);
                Due.reach(x, s, 3);
                String before = Due.look(x);
                Due.due("sum " + (56 + over), x.finish(s, 12 + over), over > 0 ? FLOW : 0);
                if (over > 0) {
                    Due.unchanged("an end beyond the sum", x, before);
                    Due.due("sum 57 by another stream", x.finish((s + 3) % 4, 10), FLOW);
                    Due.unchanged("an end beyond the sum", x, before);
                    Due.due("sum 56 by another stream", x.finish((s + 3) % 4, 9), 0);
                }
            }
        }
    }

    private static void theSameEndWithTheSumFull() {
        Due.sentence("or if the sum of the highests would go beyond (not if the highest stays)");
        StreamAssembler x = new StreamAssembler();
        Due.due("stream 0", x.finish(0, 24), 0);
        Due.reach(x, 1, 22);
        Due.due("stream 2, sum 56", x.finish(2, 10), 0);
        Due.due("stream 2, sum 56, again", x.finish(2, 10), 0);
        Due.due("stream 0 again", x.finish(0, 24), 0);
        Due.due("stream 1 above its highest", x.finish(1, 23), FLOW);
        Due.due("stream 1 at its highest", x.finish(1, 22), 0);
        Due.due("stream 3, one byte", x.finish(3, 1), FLOW);
        Due.due("stream 3, empty", x.finish(3, 0), 0);
    }

    private static void theEndIsKnown() {
        Due.sentence("Otherwise the end is known; answers 0");
        for (int s = 0; s < 4; s++) {
            StreamAssembler x = new StreamAssembler();
            Due.due("finish(" + s + ", 5)", x.finish(s, 5), 0);
            for (int other = 0; other < 4; other++) {
                Due.due("highest(" + other + ")", x.highest(other), other == s ? 5 : 0);
                Due.due("allowed(" + other + ")", x.allowed(other), other == s ? 5 : 24);
            }
            Due.due("no byte is known by it", x.readable(s), 0);
            Due.due("no byte can be read by it", x.read(s), NOTHING);
            Due.due("finish(" + s + ", 5) again", x.finish(s, 5), 0);
        }
    }
}
