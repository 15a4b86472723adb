/** Promise 4: read. */
public final class Promise04ReadTest {
    private static final int NOTHING = StreamAssembler.NOTHING;
    private static final int ENDED = StreamAssembler.ENDED;

    public static void main(String[] args) {
        inOrder();
        acrossAGap();
        atTheEnd();
        toTheGreatestLength();
        streamsAreApart();
        Due.end();
    }

    private static void inOrder() {
        StreamAssembler x = new StreamAssembler();
        Due.due("piece", x.piece(0, 0, 4, 0x80FF0001), 4);
        Due.due("read 0", x.read(0), 0x01);
        Due.due("read 1", x.read(0), 0x00);
        Due.due("read 2", x.read(0), 0xFF);
        Due.due("read 3", x.read(0), 0x80);
        Due.due("read 4", x.read(0), NOTHING);
        Due.due("highest stays", x.highest(0), 4);
        Due.due("limit has gone on", x.allowed(0), 28);
    }

    private static void acrossAGap() {
        StreamAssembler x = new StreamAssembler();
        Due.due("piece at 1", x.piece(1, 1, 1, 8), 1);
        String before = Due.look(x);
        Due.due("read before byte 0", x.read(1), NOTHING);
        Due.unchanged("a refused read", x, before);
        Due.due("piece at 0", x.piece(1, 0, 1, 7), 1);
        Due.due("read 0", x.read(1), 7);
        Due.due("read 1", x.read(1), 8);
    }

    private static void atTheEnd() {
        StreamAssembler x = new StreamAssembler();
        Due.due("piece", x.piece(2, 0, 1, 5), 1);
        Due.due("finish", x.finish(2, 2), 0);
        Due.due("read 0", x.read(2), 5);
        Due.due("not known, not ended", x.read(2), NOTHING);
        Due.due("piece", x.piece(2, 1, 1, 6), 1);
        Due.due("read 1", x.read(2), 6);
        String before = Due.look(x);
        Due.due("ended", x.read(2), ENDED);
        Due.due("ended again", x.read(2), ENDED);
        Due.unchanged("reads at the end", x, before);
        StreamAssembler y = new StreamAssembler();
        Due.due("finish an empty stream", y.finish(0, 0), 0);
        Due.due("read an empty stream", y.read(0), ENDED);
        Due.due("read another stream", y.read(1), NOTHING);
    }

    private static void toTheGreatestLength() {
        for (int s = 0; s < 4; s++) {
            StreamAssembler x = new StreamAssembler();
            Due.due("first byte of the next stream", x.piece((s + 1) % 4, 0, 1, 99), 1);
            Due.readTo(x, s, 240);
            Due.due("read at 240, no end", x.read(s), NOTHING);
            Due.due("readable at 240", x.readable(s), 0);
            Due.due("allowed at 240", x.allowed(s), 240);
            Due.due("gaps at 240", x.gaps(s), 0);
            Due.due("piece at 240", x.piece(s, 240, 1, 1), StreamAssembler.FLOW);
            Due.due("piece up to 240", x.piece(s, 236, 4, 1), 0);
            Due.due("finish at 240", x.finish(s, 240), 0);
            Due.due("read at 240, ended", x.read(s), ENDED);
        }
    }

    private static void streamsAreApart() {
        StreamAssembler x = new StreamAssembler();
        for (int s = 0; s < 4; s++) {
            Due.due("piece of " + s, x.piece(s, 0, 2, 0x1110 + 0x2020 * s), 2);
        }
        for (int k = 0; k < 2; k++) {
            for (int s = 3; s >= 0; s--) {
                Due.due("byte " + k + " of " + s, x.read(s), 0x10 + k + 0x20 * s);
            }
        }
    }
}
