/** Promise 9, and promise 11's words on it: allowed. */
public final class Promise09AllowedTest {
    private static final int FLOW = StreamAssembler.FLOW;

    public static void main(String[] args) {
        theLimit();
        whatIsLeft();
        theEnd();
        nothingLeft();
        agreesWithPiece();
        Due.end();
    }

    private static void theLimit() {
        StreamAssembler x = new StreamAssembler();
        Due.due("new", x.allowed(0), 24);
        Due.due("piece", x.piece(0, 0, 4, 0), 4);
        Due.due("a piece does not move the limit", x.allowed(0), 24);
        Due.due("read", x.read(0), 0);
        Due.due("a read does", x.allowed(0), 25);
        Due.due("other stream", x.allowed(1), 24);
        StreamAssembler y = new StreamAssembler();
        Due.readTo(y, 2, 215);
        Due.due("read point 215", y.allowed(2), 239);
        Due.readTo(y, 2, 216);
        Due.due("read point 216", y.allowed(2), 240);
        Due.readTo(y, 2, 217);
        Due.due("read point 217", y.allowed(2), 240);
    }

    private static void whatIsLeft() {
        StreamAssembler x = new StreamAssembler();
        Due.due("stream 0 to 24", x.piece(0, 23, 1, 0), 1);
        Due.due("left 32", x.allowed(3), 24);
        Due.due("stream 1 to 8", x.piece(1, 7, 1, 0), 1);
        Due.due("left 24", x.allowed(3), 24);
        Due.due("stream 1 to 9", x.piece(1, 8, 1, 0), 1);
        Due.due("left 23", x.allowed(3), 23);
        Due.due("stream 2 ends at 20", x.finish(2, 20), 0);
        Due.due("left 3", x.allowed(3), 3);
        Due.due("left 3 above a highest of 9", x.allowed(1), 12);
        Due.due("left 3 above a highest at the limit", x.allowed(0), 24);
        Due.due("byte 0 of stream 2", x.piece(2, 0, 1, 0), 1);
        Due.due("a hole takes nothing", x.allowed(3), 3);
        Due.due("read stream 2", x.read(2), 0);
        Due.due("a read of any stream gives one", x.allowed(3), 4);
    }

    private static void theEnd() {
        StreamAssembler x = new StreamAssembler();
        Due.due("finish at 0", x.finish(0, 0), 0);
        Due.due("end 0", x.allowed(0), 0);
        Due.due("finish at 10", x.finish(1, 10), 0);
        Due.due("end 10", x.allowed(1), 10);
        Due.due("byte 0", x.piece(1, 0, 1, 0), 1);
        Due.due("read", x.read(1), 0);
        Due.due("end 10 after a read", x.allowed(1), 10);
        Due.due("refused finish", x.finish(2, 25), FLOW);
        Due.due("no end", x.allowed(2), 24);
    }

    private static void nothingLeft() {
        StreamAssembler x = new StreamAssembler();
        Due.due("stream 0", x.finish(0, 24), 0);
        Due.due("stream 1", x.piece(1, 23, 1, 0), 1);
        Due.due("stream 2", x.piece(2, 7, 1, 0), 1);
        Due.due("an end with nothing left", x.allowed(0), 24);
        Due.due("highest 24 with nothing left", x.allowed(1), 24);
        Due.due("highest 8 with nothing left", x.allowed(2), 8);
        Due.due("highest 0 with nothing left", x.allowed(3), 0);
    }

    private static void agreesWithPiece() {
        for (int first = 0; first <= 24; first++) {
            for (int second = 0; second <= 24; second += 4) {
                for (int third = 0; third <= 24 && first + second + third <= 56; third += 3) {
                    StreamAssembler x = new StreamAssembler();
                    reach(x, 0, first);
                    reach(x, 1, second);
                    reach(x, 2, third);
                    String state = " with highests " + first + ", " + second + ", " + third;
                    int stream = (first + second + third) % 4;
                    int allowed = x.allowed(stream);
                    Due.due("piece beyond allowed" + state, x.piece(stream, allowed, 1, 0), FLOW);
                    if (allowed > 0 && x.piece(stream, allowed - 1, 1, 0) < 0) {
                        Due.fault("piece up to allowed was refused" + state);
                    }
                }
            }
        }
    }

    private static void reach(StreamAssembler x, int stream, int highest) {
        if (highest > 0) {
            Due.due("piece up to " + highest, x.piece(stream, highest - 1, 1, 0), 1);
        }
    }
}
