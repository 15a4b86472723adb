/** Promise 1: a new object knows no byte and no end, and shares nothing with another object. */
public final class Promise01NewObjectTest {
    private static final int FLOW = StreamAssembler.FLOW;
    private static final int NOTHING = StreamAssembler.NOTHING;

    public static void main(String[] args) {
        noByteIsKnown(new StreamAssembler());
        noEndIsKnown();
        twoObjects();
        Due.end();
    }

    private static void noByteIsKnown(StreamAssembler x) {
        Due.sentence("No byte of any stream is known");
        for (int s = 0; s < 4; s++) {
            Due.due("readable(" + s + ")", x.readable(s), 0);
            Due.due("highest(" + s + ")", x.highest(s), 0);
            Due.due("gaps(" + s + ")", x.gaps(s), 0);
            Due.due("gap(" + s + ", 0)", x.gap(s, 0), NOTHING);
            Due.due("allowed(" + s + ")", x.allowed(s), 24);
            Due.due("read(" + s + ")", x.read(s), NOTHING);
        }
        for (int s = 0; s < 4; s++) {
            Due.due("the first bytes of " + s, x.piece(s, 0, 4, 0), 4);
            Due.due("later bytes of " + s, x.piece(s, 10, 4, 0), 4);
        }
    }

    private static void noEndIsKnown() {
        Due.sentence("no end is known");
        for (int s = 0; s < 4; s++) {
            StreamAssembler x = new StreamAssembler();
            Due.due("complete(" + s + ")", x.complete(s), 0);
            Due.due("read(" + s + ") is not ENDED", x.read(s), NOTHING);
            Due.due("allowed(" + s + ") is not an end", x.allowed(s), 24);
            Due.due("a piece is not FINAL", x.piece(s, 24, 1, 0), FLOW);
            for (int end = 0; end <= 24; end++) {
                Due.due("finish(" + s + ", " + end + ")", new StreamAssembler().finish(s, end), 0);
            }
            Due.due("finish(" + s + ", 25)", new StreamAssembler().finish(s, 25), FLOW);
        }
    }

    private static void twoObjects() {
        StreamAssembler early = new StreamAssembler();
        StreamAssembler used = new StreamAssembler();
        for (int s = 0; s < 4; s++) {
            Due.due("used piece " + s, used.piece(s, 0, 4, 0x04030201), 4);
            Due.due("used read " + s, used.read(s), 1);
            Due.due("used finish " + s, used.finish(s, 4), 0);
        }
        noByteIsKnown(early);
        noByteIsKnown(new StreamAssembler());
        noEndIsKnown();
        Due.due("the used one goes on", used.read(0), 2);
    }
}
