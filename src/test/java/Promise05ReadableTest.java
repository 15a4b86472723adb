/** Promise 5: readable. */
public final class Promise05ReadableTest {
    public static void main(String[] args) {
        upToTheHighest();
        withoutAGap();
        fromTheReadPointOn();
        theEndMakesNothingReadable();
        atTheGreatestLength();
        wrongStream();
        Due.end();
    }

    private static void upToTheHighest() {
        Due.sentence("How many bytes from the read point on are known (empty to full)");
        for (int s = 0; s < 4; s++) {
            StreamAssembler x = new StreamAssembler();
            Due.due("none", x.readable(s), 0);
            for (int below = 1; below <= 24; below++) {
                Due.fill(x, s, below - 1, below);
                Due.due("known up to " + below, x.readable(s), below);
            }
            Due.due("one beyond the limit", x.piece(s, 24, 1, 0), StreamAssembler.FLOW);
            Due.due("a refused piece is not readable", x.readable(s), 24);
            for (int read = 1; read <= 24; read++) {
                Due.reads(x, s, read - 1, read);
                Due.due(read + " read", x.readable(s), 24 - read);
            }
            Due.due("other stream", x.readable((s + 1) % 4), 0);
        }
    }

    private static void withoutAGap() {
        Due.sentence("known without a gap");
        for (int gap = 0; gap <= 8; gap++) {
            StreamAssembler x = new StreamAssembler();
            Due.fill(x, 1, 0, gap);
            Due.fill(x, 1, gap + 1, 9);
            Due.due("byte " + gap + " of 9 missing", x.readable(1), gap);
            Due.fill(x, 1, gap, gap + 1);
            Due.due("byte " + gap + " of 9 there", x.readable(1), 9);
        }
    }

    private static void fromTheReadPointOn() {
        Due.sentence("from the read point on");
        StreamAssembler x = new StreamAssembler();
        Due.fill(x, 0, 0, 3);
        Due.fill(x, 0, 4, 6);
        Due.due("before the reads", x.readable(0), 3);
        for (int read = 1; read <= 3; read++) {
            Due.reads(x, 0, read - 1, read);
            Due.due("after " + read + " reads", x.readable(0), 3 - read);
        }
        Due.due("a refused read", x.read(0), StreamAssembler.NOTHING);
        Due.due("at the gap", x.readable(0), 0);
        Due.due("a piece of read bytes", x.piece(0, 0, 3, 0), 0);
        Due.due("read bytes are not readable", x.readable(0), 0);
        Due.fill(x, 0, 3, 4);
        Due.due("the gap closed", x.readable(0), 3);
    }

    private static void theEndMakesNothingReadable() {
        Due.sentence("known (the end makes no byte known)");
        for (int end = 5; end <= 7; end++) {
            StreamAssembler x = new StreamAssembler();
            Due.fill(x, 2, 0, 5);
            Due.due("finish at " + end, x.finish(2, end), 0);
            Due.due("5 known, end " + end, x.readable(2), 5);
            Due.fill(x, 2, 5, end);
            Due.due("all known, end " + end, x.readable(2), end);
            Due.reads(x, 2, 0, end);
            Due.due("all read, end " + end, x.readable(2), 0);
        }
        StreamAssembler y = new StreamAssembler();
        Due.due("finish at 0", y.finish(3, 0), 0);
        Due.due("an empty stream", y.readable(3), 0);
    }

    private static void atTheGreatestLength() {
        Due.sentence("How many bytes from the read point on (up to offset 239)");
        for (int s = 0; s < 4; s++) {
            StreamAssembler x = Due.readUpTo(s, 216);
            // The first bytes of the next stream are there to be counted wrongly.
            Due.fill(x, (s + 1) % 4, 0, 4);
            Due.fill(x, s, 216, 239);
            Due.due("up to 238", x.readable(s), 23);
            Due.fill(x, s, 239, 240);
            Due.due("up to 239", x.readable(s), 24);
            Due.reads(x, s, 216, 239);
            Due.due("byte 239 alone", x.readable(s), 1);
            Due.reads(x, s, 239, 240);
            Due.due("none left", x.readable(s), 0);
            Due.due("the next stream", x.readable((s + 1) % 4), 4);
        }
    }

    private static void wrongStream() {
        Due.sentence("BAD");
        StreamAssembler x = new StreamAssembler();
        int[] wrong = {-1, 4, -2, 5, 1 << 30, Integer.MAX_VALUE, Integer.MIN_VALUE};
        for (int stream : wrong) {
            Due.due("readable(" + stream + ")", x.readable(stream), StreamAssembler.BAD);
        }
        for (int s = 0; s < 4; s++) {
            Due.fill(x, s, 0, s + 1);
        }
        for (int s = 0; s < 4; s++) {
            Due.due("readable(" + s + ")", x.readable(s), s + 1);
        }
        Due.due("readable(-1), used object", x.readable(-1), StreamAssembler.BAD);
        Due.due("readable(4), used object", x.readable(4), StreamAssembler.BAD);
    }
}
