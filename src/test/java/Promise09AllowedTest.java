/** Promise 9, and promise 11's words on it: allowed. */
public final class Promise09AllowedTest {
    private static final int BAD = StreamAssembler.BAD;
    private static final int FLOW = StreamAssembler.FLOW;
    private static final int NOTHING = StreamAssembler.NOTHING;

    public static void main(String[] args) {
        whatPieceWouldNotRefuse();
        whatPieceWouldNotRefuseAfterReads();
        theEnd();
        theEndWithNothingLeft();
        theLimit();
        theLimitIsNever241();
        theLesserOfBoth();
        whatIsLeft();
        theAnswerCanBe0();
        wrongStream();
        Due.end();
    }

    private static void whatPieceWouldNotRefuse() {
        Due.sentence("the greatest offset + length that piece would not refuse with FLOW for this stream now");
        for (int first = 0; first <= 24; first++) {
            for (int second = 0; second <= 24; second += 4) {
                for (int third = 0; third <= 24 && first + second + third <= 56; third += 3) {
                    StreamAssembler x = new StreamAssembler();
                    Due.reach(x, 0, first);
                    Due.reach(x, 1, second);
                    Due.reach(x, 2, third);
                    for (int stream = 0; stream < 4; stream++) {
                        agrees(x, stream, first + ", " + second + ", " + third);
                    }
                }
            }
        }
    }

    private static void agrees(StreamAssembler x, int stream, String highests) {
        String state = "stream " + stream + " with highests " + highests;
        int allowed = x.allowed(stream);
        for (int length = 1; length <= 4 && length <= allowed + 1; length++) {
            Due.due("one beyond allowed, " + state, x.piece(stream, allowed + 1 - length, length, 0), FLOW);
        }
        if (allowed > 0 && x.piece(stream, allowed - 1, 1, 0) < 0) {
            Due.fault("up to allowed was refused, " + state);
        }
        Due.due("allowed after a piece up to it, " + state, x.allowed(stream), allowed);
    }

    private static void whatPieceWouldNotRefuseAfterReads() {
        Due.sentence("that piece would not refuse with FLOW for this stream now (after reads)");
        for (int readPoint = 0; readPoint <= 240; readPoint += 15) {
            for (int other = 0; other <= 24; other += 6) {
                StreamAssembler x = Due.readUpTo(3, readPoint);
                Due.reach(x, 0, 24);
                Due.reach(x, 1, other);
                for (int stream = 0; stream < 4; stream++) {
                    agrees(x, stream, "24, " + other + ", read point " + readPoint);
                }
            }
        }
    }

    private static void theEnd() {
        Due.sentence("(If the end of the stream is known, it is the end.)");
        for (int s = 0; s < 4; s++) {
            int[] ends = {0, 1, 10, 23, 24};
            for (int end : ends) {
                StreamAssembler x = new StreamAssembler();
                Due.due("finish at " + end, x.finish(s, end), 0);
                Due.due("end " + end, x.allowed(s), end);
                Due.due("other stream", x.allowed((s + 1) % 4), 24);
                if (end > 0) {
                    Due.fill(x, s, 0, 1);
                    Due.due("end " + end + " after a piece", x.allowed(s), end);
                    Due.reads(x, s, 0, 1);
                    Due.due("end " + end + " after a read", x.allowed(s), end);
                }
            }
            StreamAssembler y = new StreamAssembler();
            Due.due("refused finish", y.finish(s, 25), FLOW);
            Due.due("a refused end", y.allowed(s), 24);
            StreamAssembler z = Due.readUpTo(s, 5);
            Due.due("all read, no end", z.allowed(s), 29);
            Due.due("finish at the read point", z.finish(s, 5), 0);
            Due.due("all read, end", z.allowed(s), 5);
            Due.due("ended", z.read(s), StreamAssembler.ENDED);
            Due.due("all read, end, a refused read", z.allowed(s), 5);
        }
    }

    private static void theEndWithNothingLeft() {
        Due.sentence("(If the end of the stream is known, it is the end.) (whatever is left)");
        StreamAssembler x = new StreamAssembler();
        Due.due("stream 0", x.finish(0, 20), 0);
        Due.due("stream 1", x.finish(1, 0), 0);
        for (int left = 36; left >= 32; left--) {
            Due.due("end 20", x.allowed(0), 20);
            Due.due("end 0", x.allowed(1), 0);
            Due.fill(x, 2, 36 - left, 37 - left);
        }
        Due.reach(x, 3, 24);
        Due.reach(x, 2, 12);
        Due.due("nothing is left", x.allowed(2), 12);
        Due.due("end 20, nothing left", x.allowed(0), 20);
        Due.due("end 0, nothing left", x.allowed(1), 0);
    }

    private static void theLimit() {
        Due.sentence("if the end of the stream is not known: the lesser of the limit of the stream (read point plus 24)");
        for (int s = 0; s < 4; s++) {
            StreamAssembler x = new StreamAssembler();
            Due.due("new", x.allowed(s), 24);
            Due.fill(x, s, 0, 4);
            Due.due("a piece does not move the limit", x.allowed(s), 24);
            for (int read = 1; read <= 4; read++) {
                Due.reads(x, s, read - 1, read);
                Due.due("read point " + read, x.allowed(s), 24 + read);
            }
            Due.due("a refused read", x.read(s), NOTHING);
            Due.due("a refused read does not move it", x.allowed(s), 28);
            Due.due("other stream", x.allowed((s + 1) % 4), 24);
        }
    }

    private static void theLimitIsNever241() {
        Due.sentence("the limit of the stream (never more than 240)");
        for (int s = 0; s < 4; s++) {
            StreamAssembler x = Due.readUpTo(s, 214);
            Due.due("read point 214", x.allowed(s), 238);
            for (int readPoint = 215; readPoint <= 240; readPoint++) {
                Due.readTo(x, s, readPoint - 1, readPoint);
                Due.due("read point " + readPoint, x.allowed(s), Math.min(readPoint + 24, 240));
            }
            Due.due("finish at 240", x.finish(s, 240), 0);
            Due.due("end 240", x.allowed(s), 240);
        }
    }

    private static void theLesserOfBoth() {
        Due.sentence("the lesser of the limit of the stream and of its highest plus what is left");
        // The others take 24 and then 7, 8 and 9, so that 25, 24 and 23 are left for the limit of 24.
        for (int other = 7; other <= 9; other++) {
            StreamAssembler x = new StreamAssembler();
            Due.reach(x, 0, 24);
            Due.reach(x, 1, other);
            Due.due("left " + (32 - other) + ", highest 0", x.allowed(3), other == 9 ? 23 : 24);
            Due.reach(x, 3, 5);
            Due.due("left " + (27 - other) + ", highest 5", x.allowed(3), other == 9 ? 23 : 24);
            Due.due("left " + (27 - other) + ", highest at the limit", x.allowed(0), 24);
            Due.due("left " + (27 - other) + ", highest " + other, x.allowed(1), 24);
        }
    }

    private static void whatIsLeft() {
        Due.sentence("the sum of all four read points plus 56 less the sum of the highests of all four streams");
        StreamAssembler x = new StreamAssembler();
        Due.reach(x, 0, 24);
        Due.reach(x, 1, 9);
        Due.due("stream 2 ends at 20", x.finish(2, 20), 0);
        Due.due("left 3", x.allowed(3), 3);
        Due.due("left 3 above a highest of 9", x.allowed(1), 12);
        Due.due("left 3 above a highest at the limit", x.allowed(0), 24);
        Due.fill(x, 2, 0, 1);
        Due.due("a hole below the end takes nothing", x.allowed(3), 3);
        Due.fill(x, 1, 0, 1);
        Due.due("a hole below the highest takes nothing", x.allowed(3), 3);
        Due.reads(x, 2, 0, 1);
        Due.due("a read of stream 2 gives one", x.allowed(3), 4);
        Due.reads(x, 1, 0, 1);
        Due.due("a read of stream 1 gives one", x.allowed(3), 5);
        Due.due("a piece up to 4", x.piece(3, 3, 1, 0), 1);
        Due.due("a piece takes nothing from its own stream", x.allowed(3), 5);
        Due.due("left 1 above a highest of 9", x.allowed(1), 10);
        Due.fill(x, 0, 0, 1);
        Due.reads(x, 0, 0, 1);
        Due.due("a read of stream 0 gives one", x.allowed(3), 6);
        Due.fill(x, 3, 0, 1);
        Due.reads(x, 3, 0, 1);
        Due.due("a read of stream 3 gives one", x.allowed(1), 12);
    }

    private static void theAnswerCanBe0() {
        Due.sentence("so the answer can be 0");
        for (int s = 0; s < 4; s++) {
            StreamAssembler x = new StreamAssembler();
            Due.reach(x, (s + 1) % 4, 24);
            Due.reach(x, (s + 2) % 4, 23);
            for (int highest = 6; highest <= 9; highest++) {
                Due.reach(x, (s + 3) % 4, highest);
                Due.due("left " + (9 - highest), x.allowed(s), 9 - highest);
            }
            Due.due("one byte with nothing left", x.piece(s, 0, 1, 0), FLOW);
            Due.due("highest 24 with nothing left", x.allowed((s + 1) % 4), 24);
            Due.due("highest 23 with nothing left", x.allowed((s + 2) % 4), 23);
            Due.due("highest 9 with nothing left", x.allowed((s + 3) % 4), 9);
            Due.fill(x, (s + 1) % 4, 0, 1);
            Due.reads(x, (s + 1) % 4, 0, 1);
            Due.due("1 left again", x.allowed(s), 1);
        }
    }

    private static void wrongStream() {
        Due.sentence("BAD");
        StreamAssembler x = new StreamAssembler();
        for (int s = 0; s < 4; s++) {
            Due.readTo(x, s, 0, s);
        }
        int[] wrong = {-1, 4, -2, 5, 1 << 30, Integer.MAX_VALUE, Integer.MIN_VALUE};
        for (int stream : wrong) {
            Due.due("allowed(" + stream + ")", x.allowed(stream), BAD);
        }
        for (int s = 0; s < 4; s++) {
            Due.due("allowed(" + s + ")", x.allowed(s), 24 + s);
        }
    }
}
