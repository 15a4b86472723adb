/** Promise 11: BAD for a wrong stream and for nothing else, and read bytes stay known. */
public final class Promise11OrderAndLimitsTest {
    private static final int BAD = StreamAssembler.BAD;

    public static void main(String[] args) {
        wrongStreams(new StreamAssembler());
        StreamAssembler used = new StreamAssembler();
        Due.readTo(used, 0, 3);
        Due.due("finish", used.finish(3, 9), 0);
        wrongStreams(used);
        gapNumbers();
        readBytesStayKnown();
        Due.end();
    }

    private static void wrongStreams(StreamAssembler x) {
        String before = Due.look(x);
        int[] streams = {-1, -2, 4, 5, 240, 960, 1 << 30, Integer.MAX_VALUE, Integer.MIN_VALUE};
        for (int s : streams) {
            Due.due("read(" + s + ")", x.read(s), BAD);
            Due.due("readable(" + s + ")", x.readable(s), BAD);
            Due.due("highest(" + s + ")", x.highest(s), BAD);
            Due.due("gaps(" + s + ")", x.gaps(s), BAD);
            Due.due("gap(" + s + ", 0)", x.gap(s, 0), BAD);
            Due.due("gap(" + s + ", -1)", x.gap(s, -1), BAD);
            Due.due("allowed(" + s + ")", x.allowed(s), BAD);
            Due.due("complete(" + s + ")", x.complete(s), BAD);
        }
        Due.unchanged("wrong streams", x, before);
    }

    private static void gapNumbers() {
        for (int s = 0; s < 4; s++) {
            StreamAssembler x = new StreamAssembler();
            Due.due("piece", x.piece(s, 3, 1, 0), 1);
            Due.due("gap(" + s + ", -1)", x.gap(s, -1), StreamAssembler.NOTHING);
            Due.due("gap(" + s + ", least)", x.gap(s, Integer.MIN_VALUE), StreamAssembler.NOTHING);
            Due.due("gap(" + s + ", 0)", x.gap(s, 0), 0);
        }
    }

    private static void readBytesStayKnown() {
        StreamAssembler x = new StreamAssembler();
        Due.readTo(x, 1, 6);
        Due.due("piece over read bytes", x.piece(1, 2, 4, -1), 0);
        Due.due("piece over read and new bytes", x.piece(1, 4, 4, -1), 2);
        Due.due("highest", x.highest(1), 8);
        Due.due("gaps", x.gaps(1), 0);
        Due.due("readable", x.readable(1), 2);
        Due.due("end below the read bytes", x.finish(1, 5), StreamAssembler.FINAL);
        Due.due("allowed of another stream", x.allowed(0), 24);
    }
}
