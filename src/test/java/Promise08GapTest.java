/** Promise 8, and promise 11's words on it: gap. */
public final class Promise08GapTest {
    private static final int BAD = StreamAssembler.BAD;
    private static final int NOTHING = StreamAssembler.NOTHING;

    public static void main(String[] args) {
        leastOffset();
        countedFrom0();
        noneWithTheNumber();
        numberBelow0();
        everyPattern();
        atTheGreatestLength();
        wrongStream();
        Due.end();
    }

    private static void leastOffset() {
        Due.sentence("The least offset of the gap");
        for (int length = 1; length <= 22; length++) {
            StreamAssembler x = new StreamAssembler();
            Due.fill(x, 0, length, length + 1);
            Due.due("0 to " + (length - 1) + " missing", x.gap(0, 0), 0);
            Due.fill(x, 0, 0, 1);
            Due.due("1 to " + (length - 1) + " missing", x.gap(0, 0), length == 1 ? NOTHING : 1);
            Due.reads(x, 0, 0, 1);
            Due.due("the gap at the read point", x.gap(0, 0), length == 1 ? NOTHING : 1);
        }
        StreamAssembler y = new StreamAssembler();
        Due.fill(y, 3, 0, 2);
        Due.due("finish at 4", y.finish(3, 4), 0);
        Due.due("the gap below the end", y.gap(3, 0), 2);
        Due.fill(y, 3, 2, 3);
        Due.due("the last byte missing", y.gap(3, 0), 3);
        Due.fill(y, 3, 3, 4);
        Due.due("no gap at the end", y.gap(3, 0), NOTHING);
    }

    private static void countedFrom0() {
        Due.sentence("with the number (0 is the one with the least offsets)");
        for (int s = 0; s < 4; s++) {
            StreamAssembler x = new StreamAssembler();
            for (int offset = 23; offset > 0; offset -= 2) {
                Due.fill(x, s, offset, offset + 1);
            }
            for (int number = 0; number < 12; number++) {
                Due.due("gap " + number, x.gap(s, number), 2 * number);
            }
            Due.fill(x, s, 0, 1);
            Due.due("gap 0 is the old gap 1", x.gap(s, 0), 2);
            Due.due("gap 10 is the old gap 11", x.gap(s, 10), 22);
            Due.due("there is no gap 11", x.gap(s, 11), NOTHING);
            Due.due("other stream", x.gap((s + 1) % 4, 0), NOTHING);
        }
    }

    private static void noneWithTheNumber() {
        Due.sentence("NOTHING if there is none");
        int[] great = {12, 13, 24, 1000, 1 << 30, Integer.MAX_VALUE - 1, Integer.MAX_VALUE};
        StreamAssembler x = new StreamAssembler();
        Due.due("no gap", x.gap(1, 0), NOTHING);
        for (int gaps = 1; gaps <= 12; gaps++) {
            Due.fill(x, 1, 2 * gaps - 1, 2 * gaps);
            Due.due("gap " + (gaps - 1) + " of " + gaps, x.gap(1, gaps - 1), 2 * gaps - 2);
            Due.due("gap " + gaps + " of " + gaps, x.gap(1, gaps), NOTHING);
        }
        for (int number : great) {
            Due.due("gap " + number + " of 12", x.gap(1, number), NOTHING);
        }
        StreamAssembler y = new StreamAssembler();
        Due.due("finish at 0", y.finish(0, 0), 0);
        Due.due("an empty stream", y.gap(0, 0), NOTHING);
    }

    private static void numberBelow0() {
        Due.sentence("gap with a number below 0 answers NOTHING");
        int[] below = {-1, -2, -12, Integer.MIN_VALUE, Integer.MIN_VALUE + 1};
        for (int s = 0; s < 4; s++) {
            StreamAssembler none = new StreamAssembler();
            StreamAssembler one = new StreamAssembler();
            Due.fill(one, s, 0, 3);
            Due.fill(one, s, 5, 6);
            for (int number : below) {
                Due.due("gap " + number + " of none", none.gap(s, number), NOTHING);
                Due.due("gap " + number + " of one", one.gap(s, number), NOTHING);
            }
            Due.due("gap 0 of one", one.gap(s, 0), 3);
            Due.due("gap 1 of one", one.gap(s, 1), NOTHING);
        }
    }

    private static void everyPattern() {
        Due.sentence("The least offset of the gap with the number (every pattern)");
        for (int pattern = 0; pattern < 256; pattern++) {
            StreamAssembler x = new StreamAssembler();
            for (int k = 0; k < 8; k++) {
                if ((pattern >> k & 1) != 0) {
                    Due.fill(x, 2, k, k + 1);
                }
            }
            Due.due("finish at 8", x.finish(2, 8), 0);
            int number = 0;
            for (int k = 0; k < 8; k++) {
                boolean missing = (pattern >> k & 1) == 0;
                if (missing && (k == 0 || (pattern >> k - 1 & 1) != 0)) {
                    Due.due("gap " + number + " of pattern " + pattern, x.gap(2, number), k);
                    number++;
                }
            }
            Due.due("gap " + number + " of pattern " + pattern, x.gap(2, number), NOTHING);
        }
    }

    private static void atTheGreatestLength() {
        Due.sentence("The least offset of the gap (up to offset 239)");
        for (int s = 0; s < 4; s++) {
            StreamAssembler x = Due.readUpTo(s, 236);
            Due.reach(x, (s + 1) % 4, 2);
            Due.fill(x, s, 237, 239);
            Due.due("finish at 240", x.finish(s, 240), 0);
            Due.due("gap 0", x.gap(s, 0), 236);
            Due.due("gap 1", x.gap(s, 1), 239);
            Due.due("gap 2", x.gap(s, 2), NOTHING);
            Due.due("the next stream", x.gap((s + 1) % 4, 0), 0);
            Due.fill(x, s, 236, 237);
            Due.fill(x, s, 239, 240);
            Due.reads(x, s, 236, 240);
            Due.due("all read", x.gap(s, 0), NOTHING);
        }
    }

    private static void wrongStream() {
        Due.sentence("BAD");
        StreamAssembler x = new StreamAssembler();
        for (int s = 0; s < 4; s++) {
            Due.fill(x, s, 0, s + 1);
            Due.fill(x, s, s + 2, s + 3);
        }
        int[] wrong = {-1, 4, -2, 5, 1 << 30, Integer.MAX_VALUE, Integer.MIN_VALUE};
        for (int stream : wrong) {
            Due.due("gap(" + stream + ", 0)", x.gap(stream, 0), BAD);
            Due.due("gap(" + stream + ", 1), no such number", x.gap(stream, 1), BAD);
            Due.due("gap(" + stream + ", -1), BAD before NOTHING", x.gap(stream, -1), BAD);
        }
        for (int s = 0; s < 4; s++) {
            Due.due("gap(" + s + ", 0)", x.gap(s, 0), s + 1);
        }
    }
}
