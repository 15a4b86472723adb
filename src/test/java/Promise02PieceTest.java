/** Promise 2: piece. */
public final class Promise02PieceTest {
    private static final int BAD = StreamAssembler.BAD;
    private static final int FLOW = StreamAssembler.FLOW;
    private static final int FINAL = StreamAssembler.FINAL;
    private static final int NOTHING = StreamAssembler.NOTHING;
    private static final int LEAST = Integer.MIN_VALUE;
    private static final int GREATEST = Integer.MAX_VALUE;

    public static void main(String[] args) {
        fromTheOffsetOn();
        bytesOfAPiece();
        wrongStream();
        wrongLength();
        offsetBelow0();
        offsetAbove1000();
        beyondTheEnd();
        noEndIsNotFinal();
        aboveTheLimit();
        beyondTheSum();
        belowTheHighestTheSumIsFree();
        everyNewByteBecomesKnown();
        readBytesDoNotBecomeKnownAgain();
        knownBytesStay();
        Due.end();
    }

    private static void fromTheOffsetOn() {
        Due.sentence("length bytes of the stream from the offset on");
        for (int length = 1; length <= 4; length++) {
            StreamAssembler x = new StreamAssembler();
            Due.due("piece at 5", x.piece(1, 5, length, 0), length);
            Due.due("highest", x.highest(1), 5 + length);
            Due.due("the byte after the last", x.piece(1, 5 + length, 1, 0), 1);
            Due.due("the last byte", x.piece(1, 4 + length, 1, 0), 0);
            Due.due("the first byte", x.piece(1, 5, 1, 0), 0);
            Due.due("the byte before the first", x.piece(1, 4, 1, 0), 1);
            Due.due("the same byte of the stream below", x.piece(0, 5, 1, 0), 1);
            Due.due("the same byte of the stream above", x.piece(2, 5, 1, 0), 1);
        }
    }

    private static void bytesOfAPiece() {
        Due.sentence("byte k of the piece is (bytes >> 8 * k) & 255");
        int[] all = {0xF0E1807F, 0x04030201, 0x80000000, 0x7FFFFFFF, 0xFF00FF00, 0x00FF00FF, -1, 0, 0x00000100, 0x01000000};
        for (int bytes : all) {
            for (int length = 1; length <= 4; length++) {
                StreamAssembler x = new StreamAssembler();
                Due.due("piece of length " + length, x.piece(3, 0, length, bytes), length);
                for (int k = 0; k < length; k++) {
                    Due.due("byte " + k + " of " + bytes + ", length " + length, x.read(3), (bytes >> 8 * k) & 255);
                }
                Due.due("byte after length " + length, x.read(3), NOTHING);
            }
        }
    }

    private static void wrongStream() {
        Due.sentence("BAD if stream is not from 0 to 3");
        int[] wrong = {-1, 4, -2, 5, LEAST, GREATEST, 1 << 30, -4, 8};
        StreamAssembler x = new StreamAssembler();
        String before = Due.look(x);
        for (int stream : wrong) {
            Due.due("piece of stream " + stream, x.piece(stream, 0, 1, 1), BAD);
        }
        Due.unchanged("pieces of wrong streams", x, before);
        for (int stream = 0; stream <= 3; stream++) {
            Due.due("piece of stream " + stream, x.piece(stream, 0, 1, 1), 1);
        }
    }

    private static void wrongLength() {
        Due.sentence("or length is not from 1 to 4");
        int[] wrong = {0, 5, -1, 6, LEAST, GREATEST, 256, 257, -4};
        for (int s = 0; s < 4; s++) {
            StreamAssembler x = new StreamAssembler();
            String before = Due.look(x);
            for (int length : wrong) {
                Due.due("length " + length, x.piece(s, 0, length, 1), BAD);
                Due.due("length " + length + " at 10", x.piece(s, 10, length, 1), BAD);
            }
            Due.unchanged("pieces of wrong lengths", x, before);
            for (int length = 1; length <= 4; length++) {
                Due.due("length " + length, x.piece(s, 5 * length - 5, length, 1), length);
            }
        }
    }

    private static void offsetBelow0() {
        Due.sentence("or offset is below 0");
        int[] wrong = {-1, -2, -3, -4, -5, LEAST, LEAST + 1, LEAST + 3, LEAST + 4};
        for (int s = 0; s < 4; s++) {
            StreamAssembler x = new StreamAssembler();
            Due.fill(x, (s + 3) % 4, 0, 4);
            String before = Due.look(x);
            for (int offset : wrong) {
                for (int length = 1; length <= 4; length++) {
                    Due.due("offset " + offset + ", length " + length, x.piece(s, offset, length, 1), BAD);
                }
            }
            Due.unchanged("pieces below 0", x, before);
            Due.due("offset 0", x.piece(s, 0, 1, 1), 1);
            Due.due("offset 1", x.piece(s, 1, 1, 1), 1);
        }
    }

    private static void offsetAbove1000() {
        Due.sentence("or above 1000");
        int[] wrong = {1001, 1002, 1004, GREATEST, GREATEST - 1, GREATEST - 3, GREATEST - 4, 1 << 30};
        for (int s = 0; s < 4; s++) {
            StreamAssembler open = new StreamAssembler();
            StreamAssembler ended = new StreamAssembler();
            Due.due("finish", ended.finish(s, 3), 0);
            String before = Due.look(ended);
            for (int length = 1; length <= 4; length++) {
                for (int offset : wrong) {
                    Due.due("offset " + offset + ", no end", open.piece(s, offset, length, 1), BAD);
                    Due.due("offset " + offset + ", end 3", ended.piece(s, offset, length, 1), BAD);
                }
                Due.due("offset 999, no end", open.piece(s, 999, length, 1), FLOW);
                Due.due("offset 999, end 3", ended.piece(s, 999, length, 1), FINAL);
                Due.due("offset 1000, no end", open.piece(s, 1000, length, 1), FLOW);
                Due.due("offset 1000, end 3", ended.piece(s, 1000, length, 1), FINAL);
            }
            Due.unchanged("pieces far above", ended, before);
            Due.unchanged("pieces far above", open, Due.look(new StreamAssembler()));
        }
    }

    private static void beyondTheEnd() {
        Due.sentence("FINAL if the end of the stream is known and offset + length is beyond it");
        int[] ends = {0, 1, 2, 3, 4, 5, 10, 23, 24};
        for (int end : ends) {
            for (int length = 1; length <= 4; length++) {
                StreamAssembler x = new StreamAssembler();
                Due.due("finish at " + end, x.finish(1, end), 0);
                String before = Due.look(x);
                String piece = " of length " + length + ", end " + end;
                Due.due("far beyond" + piece, x.piece(1, 1000, length, 1), FINAL);
                Due.due("from the end on" + piece, x.piece(1, end, length, 1), FINAL);
                if (end + 1 >= length) {
                    Due.due("one beyond" + piece, x.piece(1, end + 1 - length, length, 1), FINAL);
                }
                Due.unchanged("pieces beyond the end " + end, x, before);
                if (end >= length) {
                    Due.due("up to the end" + piece, x.piece(1, end - length, length, 1), length);
                }
                if (end - 1 >= length) {
                    Due.due("one below" + piece, x.piece(1, end - 1 - length, length, 1), 1);
                }
                Due.due("the end of one stream alone", x.piece(2, end == 24 ? 23 : end, 1, 1), 1);
            }
        }
        StreamAssembler y = Due.readUpTo(0, 238);
        Due.due("finish at 240", y.finish(0, 240), 0);
        Due.due("one beyond 240", y.piece(0, 237, 4, 1), FINAL);
        Due.due("at 240", y.piece(0, 240, 1, 1), FINAL);
        Due.due("up to 239", y.piece(0, 238, 1, 1), 1);
        Due.due("up to 240", y.piece(0, 236, 4, 1), 1);
    }

    private static void noEndIsNotFinal() {
        Due.sentence("FINAL if the end of the stream is known (and not if it is not known)");
        for (int s = 0; s < 4; s++) {
            StreamAssembler x = new StreamAssembler();
            Due.due("one byte, beyond a highest of 0", x.piece(s, 0, 1, 1), 1);
            Due.due("one byte, beyond a highest of 1", x.piece(s, 1, 1, 1), 1);
            Due.due("an end that was refused", x.finish(s, 1), FINAL);
            Due.due("one byte, beyond a refused end", x.piece(s, 2, 1, 1), 1);
            Due.due("an end that was refused", x.finish(s, 25), FLOW);
            Due.due("far beyond", x.piece(s, 25, 1, 1), FLOW);
        }
    }

    private static void aboveTheLimit() {
        Due.sentence("FLOW if offset + length is above the limit of the stream");
        for (int s = 0; s < 4; s++) {
            for (int length = 1; length <= 4; length++) {
                for (int readPoint = 0; readPoint <= 2; readPoint++) {
                    StreamAssembler x = Due.readUpTo(s, readPoint);
                    String before = Due.look(x);
                    int limit = readPoint + 24;
                    String piece = " of length " + length + ", read point " + readPoint;
                    Due.due("one above" + piece, x.piece(s, limit + 1 - length, length, 1), FLOW);
                    Due.due("from the limit on" + piece, x.piece(s, limit, length, 1), FLOW);
                    Due.due("far above" + piece, x.piece(s, 1000, length, 1), FLOW);
                    Due.unchanged("pieces above the limit", x, before);
                    Due.due("one below" + piece, x.piece(s, limit - 1 - length, length, 1), length);
                    Due.due("up to the limit" + piece, x.piece(s, limit - length, length, 1), 1);
                }
            }
        }
    }

    private static void beyondTheSum() {
        Due.sentence("or if the sum of the highests would go beyond what is allowed");
        for (int s = 0; s < 4; s++) {
            for (int length = 1; length <= 4; length++) {
                StreamAssembler x = new StreamAssembler();
                Due.reach(x, (s + 1) % 4, 24);
                Due.reach(x, (s + 2) % 4, 20);
                Due.reach(x, s, 3);
                String before = Due.look(x);
                String piece = " of length " + length + " in stream " + s;
                Due.due("sum 57" + piece, x.piece(s, 13 - length, length, 1), FLOW);
                Due.due("sum 58" + piece, x.piece(s, 14 - length, length, 1), FLOW);
                Due.due("sum 57, another stream" + piece, x.piece((s + 3) % 4, 10 - length, length, 1), FLOW);
                Due.unchanged("pieces beyond the sum", x, before);
                Due.due("sum 55" + piece, x.piece(s, 11 - length, length, 1), length);
                Due.due("sum 56" + piece, x.piece(s, 12 - length, length, 1), 1);
                Due.due("sum 57" + piece, x.piece(s, 13 - length, length, 1), FLOW);
            }
        }
    }

    private static void belowTheHighestTheSumIsFree() {
        Due.sentence("or if the sum of the highests would go beyond (not if the highest stays)");
        StreamAssembler x = new StreamAssembler();
        Due.reach(x, 0, 24);
        Due.due("finish", x.finish(1, 24), 0);
        Due.reach(x, 2, 8);
        Due.due("stream 2, one below its highest", x.piece(2, 3, 4, 1), 4);
        Due.due("stream 2, up to its highest", x.piece(2, 4, 4, 1), 0);
        Due.due("stream 2, one above its highest", x.piece(2, 5, 4, 1), FLOW);
        Due.due("stream 1, below its end", x.piece(1, 19, 4, 1), 4);
        Due.due("stream 1, up to its end", x.piece(1, 20, 4, 1), 1);
        Due.due("stream 0, below its highest", x.piece(0, 0, 1, 9), 1);
        Due.due("stream 3, whose highest is 0", x.piece(3, 0, 1, 1), FLOW);
        Due.due("read stream 0", x.read(0), 9);
        Due.due("stream 3, two more", x.piece(3, 0, 2, 1), FLOW);
        Due.due("stream 3, one more", x.piece(3, 0, 1, 1), 1);
        Due.due("stream 0, one more", x.piece(0, 24, 1, 1), FLOW);
    }

    private static void everyNewByteBecomesKnown() {
        Due.sentence("every byte of the piece that is not known yet (and how many have become known)");
        // Each bit of the pattern is a byte around the piece, known beforehand or not.
        for (int pattern = 0; pattern < 64; pattern++) {
            for (int length = 1; length <= 4; length++) {
                StreamAssembler x = new StreamAssembler();
                for (int k = 0; k < 6; k++) {
                    if ((pattern >> k & 1) != 0) {
                        Due.due("one byte", x.piece(2, k, 1, 0x60 + k), 1);
                    }
                }
                int fresh = length - Integer.bitCount(pattern >> 1 & (1 << length) - 1);
                String piece = "pattern " + pattern + ", length " + length;
                Due.due(piece, x.piece(2, 1, length, 0x14131211), fresh);
                Due.due(piece + ", again", x.piece(2, 1, length, -1), 0);
                checkPattern(x, piece, pattern, length);
            }
        }
    }

    private static void checkPattern(StreamAssembler x, String piece, int pattern, int length) {
        for (int k = 0; k < 6; k++) {
            boolean inPiece = k >= 1 && k <= length;
            boolean before = (pattern >> k & 1) != 0;
            Due.due(piece + ", byte " + k + " once more", x.piece(2, k, 1, 0x70 + k), inPiece || before ? 0 : 1);
            int want = before ? 0x60 + k : inPiece ? 0x10 + k : 0x70 + k;
            Due.due(piece + ", byte " + k, x.read(2), want);
        }
    }

    private static void readBytesDoNotBecomeKnownAgain() {
        Due.sentence("and not read yet");
        for (int offset = 0; offset <= 8; offset++) {
            for (int length = 1; length <= 4; length++) {
                StreamAssembler x = Due.readUpTo(0, 5);
                int fresh = Math.max(0, offset + length - Math.max(5, offset));
                String piece = "piece(0, " + offset + ", " + length + ", -1) from read point 5";
                Due.due(piece, x.piece(0, offset, length, -1), fresh);
                Due.due(piece + ", highest", x.highest(0), Math.max(5, offset + length));
                Due.due(piece + ", read point stays", x.readable(0), offset <= 5 ? fresh : 0);
                Due.due(piece + ", limit stays", x.allowed(0), 29);
                Due.due(piece + ", next byte", x.read(0), offset <= 5 && fresh > 0 ? 255 : NOTHING);
            }
        }
    }

    private static void knownBytesStay() {
        Due.sentence("a byte that is known already stays as it is");
        StreamAssembler x = new StreamAssembler();
        Due.due("piece at 2", x.piece(0, 2, 2, 0x0403), 2);
        Due.due("the same piece with other bytes", x.piece(0, 2, 2, 0x0909), 0);
        Due.due("piece over two known bytes", x.piece(0, 1, 4, 0x15141312), 2);
        Due.due("piece at 0", x.piece(0, 0, 1, 0x101), 1);
        int[] want = {0x01, 0x12, 0x03, 0x04, 0x15};
        for (int k = 0; k < 3; k++) {
            Due.due("byte " + k, x.read(0), want[k]);
        }
        Due.due("piece over read and known bytes", x.piece(0, 1, 4, -1), 0);
        Due.due("piece over read, known and new bytes", x.piece(0, 2, 4, 0x26252423), 1);
        Due.due("piece below the read point", x.piece(0, 0, 3, -1), 0);
        Due.due("byte 3", x.read(0), want[3]);
        Due.due("byte 4", x.read(0), want[4]);
        Due.due("byte 5", x.read(0), 0x26);
        StreamAssembler y = new StreamAssembler();
        Due.due("a byte of 0", y.piece(1, 0, 1, 0), 1);
        Due.due("the same byte, no longer 0", y.piece(1, 0, 1, 5), 0);
        Due.due("it is still 0", y.read(1), 0);
    }
}
