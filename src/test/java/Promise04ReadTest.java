/** Promise 4: read. */
public final class Promise04ReadTest {
    private static final int BAD = StreamAssembler.BAD;
    private static final int NOTHING = StreamAssembler.NOTHING;
    private static final int ENDED = StreamAssembler.ENDED;

    public static void main(String[] args) {
        inOrder();
        streamsAreApart();
        everyByteUpToTheGreatestLength();
        wrongStream();
        atTheEnd();
        noEndIsNotEnded();
        notKnown();
        refusedReadsStay();
        Due.end();
    }

    private static void inOrder() {
        Due.sentence("Reads the byte at the read point, which goes on by 1");
        StreamAssembler x = new StreamAssembler();
        Due.due("piece", x.piece(0, 0, 4, 0x80FF0001), 4);
        int[] want = {0x01, 0x00, 0xFF, 0x80};
        for (int k = 0; k < 4; k++) {
            Due.due("readable before read " + k, x.readable(0), 4 - k);
            Due.due("allowed before read " + k, x.allowed(0), 24 + k);
            Due.due("read " + k, x.read(0), want[k]);
        }
        Due.due("read 4", x.read(0), NOTHING);
        Due.due("highest stays", x.highest(0), 4);
        Due.due("limit has gone on", x.allowed(0), 28);
    }

    private static void streamsAreApart() {
        Due.sentence("Reads the byte at the read point (of this stream alone)");
        StreamAssembler x = new StreamAssembler();
        for (int s = 0; s < 4; s++) {
            Due.due("piece of " + s, x.piece(s, 0, 2, 0x1110 + 0x2020 * s), 2);
        }
        for (int k = 0; k < 2; k++) {
            for (int s = 3; s >= 0; s--) {
                Due.due("byte " + k + " of " + s, x.read(s), 0x10 + k + 0x20 * s);
            }
        }
    }

    private static void everyByteUpToTheGreatestLength() {
        Due.sentence("Otherwise answers the byte (up to offset 239)");
        for (int s = 0; s < 4; s++) {
            StreamAssembler x = new StreamAssembler();
            // The bytes of the next stream are there to be read wrongly behind this one's last.
            Due.fill(x, (s + 1) % 4, 0, 4);
            Due.readTo(x, s, 0, 238);
            Due.fill(x, s, 238, 240);
            Due.due("read at 238", x.read(s), Due.byteAt(238));
            Due.due("read at 239", x.read(s), Due.byteAt(239));
            Due.due("read at 240, no end", x.read(s), NOTHING);
            Due.due("finish at 240", x.finish(s, 240), 0);
            Due.due("read at 240, ended", x.read(s), ENDED);
            Due.reads(x, (s + 1) % 4, 0, 4);
        }
    }

    private static void wrongStream() {
        Due.sentence("BAD");
        StreamAssembler x = new StreamAssembler();
        for (int s = 0; s < 4; s++) {
            Due.fill(x, s, 0, 1);
        }
        String before = Due.look(x);
        int[] wrong = {-1, 4, -2, 5, 1 << 30, Integer.MAX_VALUE, Integer.MIN_VALUE};
        for (int stream : wrong) {
            Due.due("read(" + stream + ")", x.read(stream), BAD);
        }
        Due.unchanged("reads of wrong streams", x, before);
        for (int s = 0; s < 4; s++) {
            Due.reads(x, s, 0, 1);
        }
    }

    private static void atTheEnd() {
        Due.sentence("ENDED if the end is known and is the read point");
        int[] ends = {0, 1, 2, 24};
        for (int s = 0; s < 4; s++) {
            for (int end : ends) {
                StreamAssembler x = new StreamAssembler();
                Due.due("finish at " + end, x.finish(s, end), 0);
                Due.fill(x, s, 0, end);
                Due.reads(x, s, 0, end);
                Due.due("read at the end " + end, x.read(s), ENDED);
                Due.due("read at the end " + end + " again", x.read(s), ENDED);
                Due.due("read of another stream", x.read((s + 1) % 4), NOTHING);
            }
            StreamAssembler y = Due.readUpTo(s, 3);
            Due.due("all known bytes read, no end", y.read(s), NOTHING);
            Due.due("the end comes at the read point", y.finish(s, 3), 0);
            Due.due("all known bytes read, end", y.read(s), ENDED);
            StreamAssembler z = Due.readUpTo(s, 3);
            Due.due("the end comes one beyond the read point", z.finish(s, 4), 0);
            Due.due("one byte before the end", z.read(s), NOTHING);
            Due.fill(z, s, 3, 4);
            Due.reads(z, s, 3, 4);
            Due.due("at the end", z.read(s), ENDED);
        }
    }

    private static void noEndIsNotEnded() {
        Due.sentence("ENDED if the end is known (and not if it is not known)");
        for (int s = 0; s < 4; s++) {
            StreamAssembler x = new StreamAssembler();
            Due.due("refused finish", x.finish(s, 25), StreamAssembler.FLOW);
            Due.due("read point 0, highest 0", x.read(s), NOTHING);
            Due.due("finish of another stream", x.finish((s + 1) % 4, 0), 0);
            Due.due("read point 0, end of another stream", x.read(s), NOTHING);
        }
    }

    private static void notKnown() {
        Due.sentence("NOTHING if the byte at the read point is not known");
        for (int s = 0; s < 4; s++) {
            StreamAssembler x = new StreamAssembler();
            Due.due("none known", x.read(s), NOTHING);
            Due.fill(x, s, 1, 2);
            Due.due("the byte after it known", x.read(s), NOTHING);
            Due.fill(x, s, 0, 1);
            Due.reads(x, s, 0, 2);
            Due.due("the bytes before it known", x.read(s), NOTHING);
            Due.fill(x, s, 3, 4);
            Due.due("the bytes on both sides known", x.read(s), NOTHING);
            Due.due("finish beyond", x.finish(s, 6), 0);
            Due.due("the end known", x.read(s), NOTHING);
            Due.fill(x, s, 2, 3);
            Due.reads(x, s, 2, 4);
            Due.due("two bytes before the end", x.read(s), NOTHING);
        }
    }

    private static void refusedReadsStay() {
        Due.sentence("Reads the byte at the read point, which goes on by 1 (and not by a refused read)");
        StreamAssembler x = new StreamAssembler();
        Due.fill(x, 1, 1, 2);
        String before = Due.look(x);
        Due.due("NOTHING", x.read(1), NOTHING);
        Due.due("NOTHING again", x.read(1), NOTHING);
        Due.unchanged("reads of nothing", x, before);
        Due.fill(x, 1, 0, 1);
        Due.reads(x, 1, 0, 2);
        Due.due("finish", x.finish(1, 2), 0);
        before = Due.look(x);
        Due.due("ENDED", x.read(1), ENDED);
        Due.due("ENDED again", x.read(1), ENDED);
        Due.unchanged("reads at the end", x, before);
    }
}
