/** Promise 2: piece. */
public final class Promise02PieceTest {
    private static final int BAD = StreamAssembler.BAD;
    private static final int FLOW = StreamAssembler.FLOW;
    private static final int FINAL = StreamAssembler.FINAL;

    public static void main(String[] args) {
        bytesOfAPiece();
        knownBytesStay();
        wrongArguments();
        beyondTheEnd();
        beyondTheLimit();
        limitNeverAbove240();
        beyondTheSum();
        orderOfRefusals();
        Due.end();
    }

    private static void bytesOfAPiece() {
        for (int length = 1; length <= 4; length++) {
            StreamAssembler x = new StreamAssembler();
            int bytes = 0xF0E1807F;
            Due.due("piece of length " + length, x.piece(3, 0, length, bytes), length);
            Due.due("highest after length " + length, x.highest(3), length);
            for (int k = 0; k < length; k++) {
                Due.due("byte " + k + " of length " + length, x.read(3), (bytes >> 8 * k) & 255);
            }
            Due.due("byte after length " + length, x.read(3), StreamAssembler.NOTHING);
        }
    }

    private static void knownBytesStay() {
        StreamAssembler x = new StreamAssembler();
        Due.due("piece at 2", x.piece(0, 2, 2, 0x0403), 2);
        Due.due("the same piece with other bytes", x.piece(0, 2, 2, 0x0909), 0);
        Due.due("piece over two known bytes", x.piece(0, 1, 4, 0x15141312), 2);
        Due.due("highest", x.highest(0), 5);
        Due.due("other stream", x.highest(1), 0);
        Due.due("piece at 0", x.piece(0, 0, 1, 0x101), 1);
        int[] want = {0x01, 0x12, 0x03, 0x04, 0x15};
        for (int k = 0; k < 3; k++) {
            Due.due("byte " + k, x.read(0), want[k]);
        }
        Due.due("piece over read and known bytes", x.piece(0, 1, 4, -1), 0);
        Due.due("piece over read, known and new bytes", x.piece(0, 2, 4, 0x26252423), 1);
        Due.due("piece below the read point", x.piece(0, 0, 3, -1), 0);
        Due.due("byte 3", x.read(0), want[3]);
        Due.due("byte 4", x.read(0), want[4]);
        Due.due("byte 5", x.read(0), 0x26);
    }

    private static void wrongArguments() {
        StreamAssembler x = new StreamAssembler();
        String before = Due.look(x);
        int[] wrongStreams = {-1, 4, 5, 1 << 30, Integer.MAX_VALUE, Integer.MIN_VALUE};
        for (int stream : wrongStreams) {
            Due.due("piece of stream " + stream, x.piece(stream, 0, 1, 1), BAD);
        }
        int[] wrongLengths = {0, 5, -1, Integer.MAX_VALUE, Integer.MIN_VALUE};
        for (int length : wrongLengths) {
            Due.due("piece of length " + length, x.piece(0, 0, length, 1), BAD);
        }
        int[] wrongOffsets = {-1, -4, 1001, Integer.MAX_VALUE, Integer.MIN_VALUE};
        for (int offset : wrongOffsets) {
            Due.due("piece at offset " + offset, x.piece(0, offset, 4, 1), BAD);
        }
        Due.due("piece at offset 1000", x.piece(0, 1000, 1, 1), FLOW);
        Due.unchanged("wrong pieces", x, before);
    }

    private static void beyondTheEnd() {
        StreamAssembler x = new StreamAssembler();
        Due.due("finish", x.finish(1, 6), 0);
        String before = Due.look(x);
        Due.due("piece that ends one beyond the end", x.piece(1, 3, 4, 1), FINAL);
        Due.due("piece that begins at the end", x.piece(1, 6, 1, 1), FINAL);
        Due.due("piece far beyond the end", x.piece(1, 1000, 4, 1), FINAL);
        Due.unchanged("pieces beyond the end", x, before);
        Due.due("piece up to the end", x.piece(1, 2, 4, 1), 4);
        Due.due("piece of another stream", x.piece(2, 6, 1, 1), 1);
    }

    private static void beyondTheLimit() {
        StreamAssembler x = new StreamAssembler();
        String before = Due.look(x);
        Due.due("piece one beyond the limit", x.piece(2, 21, 4, 1), FLOW);
        Due.due("piece at the limit", x.piece(2, 24, 1, 1), FLOW);
        Due.unchanged("pieces beyond the limit", x, before);
        Due.due("piece up to the limit", x.piece(2, 20, 4, 1), 4);
        Due.due("first byte", x.piece(2, 0, 1, 7), 1);
        Due.due("read", x.read(2), 7);
        Due.due("piece one beyond the next limit", x.piece(2, 22, 4, 1), FLOW);
        Due.due("piece up to the next limit", x.piece(2, 21, 4, 1), 1);
    }

    private static void limitNeverAbove240() {
        StreamAssembler x = new StreamAssembler();
        Due.readTo(x, 3, 215);
        Due.due("limit of read point 215, one beyond", x.piece(3, 239, 1, 1), FLOW);
        Due.readTo(x, 3, 216);
        Due.due("one beyond 240", x.piece(3, 240, 1, 1), FLOW);
        Due.readTo(x, 3, 217);
        Due.due("one beyond 240 from read point 217", x.piece(3, 237, 4, 1), FLOW);
        Due.due("up to 240", x.piece(3, 236, 4, 0x01020304), 4);
        Due.due("highest", x.highest(3), 240);
    }

    private static void beyondTheSum() {
        StreamAssembler x = new StreamAssembler();
        Due.due("stream 0 to 24", x.piece(0, 23, 1, 1), 1);
        Due.due("stream 1 to 20", x.piece(1, 19, 1, 1), 1);
        Due.due("finish of stream 2 at 9", x.finish(2, 9), 0);
        String before = Due.look(x);
        Due.due("stream 3 to 4, sum 57", x.piece(3, 3, 1, 1), FLOW);
        Due.due("stream 1 to 24, sum 57", x.piece(1, 20, 4, 1), FLOW);
        Due.unchanged("pieces beyond the sum", x, before);
        Due.due("stream 3 to 3, sum 56", x.piece(3, 0, 3, 1), 3);
        Due.due("a hole below the highest", x.piece(1, 4, 4, 1), 4);
        Due.due("a hole below the end", x.piece(2, 5, 4, 1), 4);
        Due.due("no more", x.piece(3, 3, 1, 1), FLOW);
        Due.due("read", x.read(3), 1);
        Due.due("one more, in another stream", x.piece(1, 20, 1, 1), 1);
        Due.due("no more again", x.piece(3, 3, 1, 1), FLOW);
    }

    private static void orderOfRefusals() {
        StreamAssembler x = new StreamAssembler();
        Due.due("finish", x.finish(0, 2), 0);
        Due.due("BAD before FINAL", x.piece(0, 1001, 4, 1), BAD);
        Due.due("BAD before FINAL, length", x.piece(0, 2, 5, 1), BAD);
        Due.due("FINAL before FLOW", x.piece(0, 24, 1, 1), FINAL);
        Due.due("BAD before FLOW", x.piece(1, 24, 5, 1), BAD);
    }
}
