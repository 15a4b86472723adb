/** Promise 7: gaps. */
public final class Promise07GapsTest {
    private static final int NOTHING = StreamAssembler.NOTHING;

    public static void main(String[] args) {
        fromNoneToTheMost();
        longestRows();
        fromTheReadPointOn();
        belowTheHighest();
        belowTheEnd();
        everyPattern();
        atTheGreatestLength();
        wrongStream();
        Due.end();
    }

    private static void fromNoneToTheMost() {
        Due.sentence("How many gaps there are");
        for (int s = 0; s < 4; s++) {
            StreamAssembler x = new StreamAssembler();
            Due.due("none", x.gaps(s), 0);
            for (int gaps = 1; gaps <= 12; gaps++) {
                Due.fill(x, s, 2 * gaps - 1, 2 * gaps);
                Due.due("every second byte up to " + 2 * gaps, x.gaps(s), gaps);
            }
            Due.due("other stream", x.gaps((s + 1) % 4), 0);
            for (int gaps = 11; gaps >= 0; gaps--) {
                Due.fill(x, s, 2 * gaps, 2 * gaps + 1);
                Due.due("all above " + 2 * gaps + " closed", x.gaps(s), gaps);
            }
        }
    }

    private static void longestRows() {
        Due.sentence("longest rows of offsets");
        for (int length = 0; length <= 22; length++) {
            StreamAssembler x = new StreamAssembler();
            Due.fill(x, 1, 0, 1);
            Due.fill(x, 1, length + 1, length + 2);
            Due.due(length + " bytes missing in a row", x.gaps(1), length == 0 ? 0 : 1);
        }
        for (int middle = 1; middle <= 5; middle++) {
            StreamAssembler x = new StreamAssembler();
            Due.fill(x, 1, 0, 1);
            Due.fill(x, 1, 6, 7);
            Due.fill(x, 1, middle, middle + 1);
            Due.due("the row 1 to 5, byte " + middle + " known", x.gaps(1), middle == 1 || middle == 5 ? 1 : 2);
        }
    }

    private static void fromTheReadPointOn() {
        Due.sentence("from the read point on");
        for (int readPoint = 0; readPoint <= 3; readPoint++) {
            StreamAssembler x = Due.readUpTo(2, readPoint);
            Due.due("nothing known from the read point on", x.gaps(2), 0);
            Due.fill(x, 2, readPoint + 1, readPoint + 2);
            Due.due("the byte at the read point missing", x.gaps(2), 1);
            Due.fill(x, 2, readPoint, readPoint + 1);
            Due.due("the byte at the read point there", x.gaps(2), 0);
            Due.fill(x, 2, readPoint + 3, readPoint + 4);
            Due.due("two bytes before the gap", x.gaps(2), 1);
            Due.reads(x, 2, readPoint, readPoint + 1);
            Due.due("one byte before the gap", x.gaps(2), 1);
            Due.reads(x, 2, readPoint + 1, readPoint + 2);
            Due.due("the gap at the read point", x.gaps(2), 1);
            Due.due("a read in the gap", x.read(2), NOTHING);
            Due.due("the gap stays", x.gaps(2), 1);
        }
    }

    private static void belowTheHighest() {
        Due.sentence("and below the highest");
        for (int highest = 1; highest <= 24; highest++) {
            StreamAssembler x = new StreamAssembler();
            Due.fill(x, 0, 0, highest);
            Due.due("all known below " + highest, x.gaps(0), 0);
            if (highest >= 2) {
                StreamAssembler y = new StreamAssembler();
                Due.fill(y, 0, 0, highest - 2);
                Due.fill(y, 0, highest - 1, highest);
                Due.due("the byte below the greatest missing, highest " + highest, y.gaps(0), 1);
            }
        }
    }

    private static void belowTheEnd() {
        Due.sentence("and below the highest (which is the end, once it is known)");
        for (int end = 4; end <= 6; end++) {
            StreamAssembler x = new StreamAssembler();
            Due.fill(x, 3, 0, 4);
            Due.due("finish at " + end, x.finish(3, end), 0);
            Due.due("4 known, end " + end, x.gaps(3), end == 4 ? 0 : 1);
            Due.reads(x, 3, 0, 4);
            Due.due("4 read, end " + end, x.gaps(3), end == 4 ? 0 : 1);
            Due.fill(x, 3, 4, end);
            Due.due("all known, end " + end, x.gaps(3), 0);
            Due.reads(x, 3, 4, end);
            Due.due("all read, end " + end, x.gaps(3), 0);
        }
        for (int end = 0; end <= 24; end++) {
            StreamAssembler x = new StreamAssembler();
            Due.due("finish at " + end, x.finish(0, end), 0);
            Due.due("none known, end " + end, x.gaps(0), end == 0 ? 0 : 1);
        }
    }

    private static void everyPattern() {
        Due.sentence("longest rows of offsets from the read point on and below the highest (every pattern)");
        for (int pattern = 0; pattern < 256; pattern++) {
            StreamAssembler x = new StreamAssembler();
            for (int k = 0; k < 8; k++) {
                if ((pattern >> k & 1) != 0) {
                    Due.fill(x, 1, k, k + 1);
                }
            }
            // A gap begins where a byte is missing and the one before it is not, or is not there.
            int begins = ~pattern & (pattern << 1 | 1);
            int highest = 32 - Integer.numberOfLeadingZeros(pattern);
            Due.due("pattern " + pattern, x.gaps(1), Integer.bitCount(begins & (1 << highest) - 1));
            Due.due("finish at 8", x.finish(1, 8), 0);
            Due.due("pattern " + pattern + ", end 8", x.gaps(1), Integer.bitCount(begins & 255));
        }
    }

    private static void atTheGreatestLength() {
        Due.sentence("How many gaps there are (up to offset 239)");
        for (int s = 0; s < 4; s++) {
            StreamAssembler x = Due.readUpTo(s, 236);
            Due.reach(x, (s + 1) % 4, 2);
            Due.fill(x, s, 237, 238);
            Due.fill(x, s, 239, 240);
            Due.due("236 and 238 missing", x.gaps(s), 2);
            Due.due("the next stream, 0 missing", x.gaps((s + 1) % 4), 1);
            Due.fill(x, s, 236, 237);
            Due.fill(x, s, 238, 239);
            Due.reads(x, s, 236, 240);
            Due.due("all read", x.gaps(s), 0);
            StreamAssembler y = Due.readUpTo(s, 238);
            Due.due("finish at 240", y.finish(s, 240), 0);
            Due.due("238 and 239 missing", y.gaps(s), 1);
            Due.readTo(y, s, 238, 239);
            Due.due("239 missing", y.gaps(s), 1);
            Due.readTo(y, s, 239, 240);
            Due.due("all read up to the end", y.gaps(s), 0);
        }
    }

    private static void wrongStream() {
        Due.sentence("BAD");
        StreamAssembler x = new StreamAssembler();
        for (int s = 0; s < 4; s++) {
            Due.reach(x, s, 2);
        }
        int[] wrong = {-1, 4, -2, 5, 1 << 30, Integer.MAX_VALUE, Integer.MIN_VALUE};
        for (int stream : wrong) {
            Due.due("gaps(" + stream + ")", x.gaps(stream), StreamAssembler.BAD);
        }
        for (int s = 0; s < 4; s++) {
            Due.due("gaps(" + s + ")", x.gaps(s), 1);
        }
    }
}
