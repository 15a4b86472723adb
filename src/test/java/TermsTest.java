/** The boundaries that 'Terms' names for all promises; refusals have tests of their own. */
public final class TermsTest {
    private static final int BAD = StreamAssembler.BAD;
    private static final int FLOW = StreamAssembler.FLOW;
    private static final int NOTHING = StreamAssembler.NOTHING;
    private static final int METHODS = 9;

    public static void main(String[] args) {
        streams();
        bytes();
        offsets();
        noneAtTheStart();
        readPointAtTheStart();
        highestOfKnownBytes();
        highestWithoutKnownBytes();
        highestIsTheEnd();
        limitOfAPiece();
        limitOfAnEnd();
        neverMoreThan240ForAPiece();
        neverMoreThan240ForAnEnd();
        sumForAPiece();
        sumForAnEnd();
        sumGoesOnWithEachReadPoint();
        Due.end();
    }

    private static int call(StreamAssembler x, int method, int stream) {
        switch (method) {
            case 0: return x.piece(stream, 0, 1, 1);
            case 1: return x.finish(stream, 1);
            case 2: return x.read(stream);
            case 3: return x.readable(stream);
            case 4: return x.highest(stream);
            case 5: return x.gaps(stream);
            case 6: return x.gap(stream, 0);
            case 7: return x.allowed(stream);
            default: return x.complete(stream);
        }
    }

    private static void streams() {
        Due.sentence("STREAMS are 0 to 3");
        int[] answers = {1, 0, NOTHING, 0, 0, 0, NOTHING, 24, 0};
        int[] wrong = {-1, 4, -2, 5, Integer.MIN_VALUE, Integer.MAX_VALUE, 1 << 30, 256, 1 << 16};
        for (int method = 0; method < METHODS; method++) {
            for (int stream = 0; stream <= 3; stream++) {
                int got = call(new StreamAssembler(), method, stream);
                Due.due("method " + method + " of stream " + stream, got, answers[method]);
            }
            for (int stream : wrong) {
                int got = call(new StreamAssembler(), method, stream);
                Due.due("method " + method + " of stream " + stream, got, BAD);
            }
        }
    }

    private static void bytes() {
        Due.sentence("A stream is a row of BYTES (0 to 255)");
        // -1 and 256 are the neighbours on both sides: they come out as 255 and 0.
        for (int value = -1; value <= 256; value++) {
            StreamAssembler x = new StreamAssembler();
            Due.due("piece of the byte " + value, x.piece(0, 0, 1, value), 1);
            Due.due("the byte " + value, x.read(0), value & 255);
        }
        for (int value = 0; value <= 255; value++) {
            StreamAssembler x = new StreamAssembler();
            int all = value | value << 8 | value << 16 | value << 24;
            Due.due("piece of four bytes " + value, x.piece(3, 0, 4, all), 4);
            for (int k = 0; k < 4; k++) {
                Due.due("byte " + k + " of four bytes " + value, x.read(3), value);
            }
        }
    }

    private static void offsets() {
        Due.sentence("counted from 0 by their OFFSETS");
        StreamAssembler x = new StreamAssembler();
        Due.due("offset -1", x.piece(2, -1, 1, 4), BAD);
        Due.due("offset 1", x.piece(2, 1, 1, 6), 1);
        Due.due("offset 1 is not the first byte", x.read(2), NOTHING);
        Due.due("offset 0", x.piece(2, 0, 1, 5), 1);
        Due.due("offset 0 is the first byte", x.read(2), 5);
        Due.due("offset 1 is the next byte", x.read(2), 6);
    }

    private static void noneAtTheStart() {
        Due.sentence("Of each stream the receiver knows some bytes (none at the start)");
        for (int s = 0; s < 4; s++) {
            for (int offset = 0; offset < 24; offset++) {
                StreamAssembler x = new StreamAssembler();
                Due.due("byte " + offset + " of " + s + " is new", x.piece(s, offset, 1, 0), 1);
                Due.due("byte " + offset + " of " + s + " is known", x.piece(s, offset, 1, 0), 0);
            }
        }
    }

    private static void readPointAtTheStart() {
        Due.sentence("The READ POINT of a stream is how many of its bytes have been read (0 at the start)");
        for (int s = 0; s < 4; s++) {
            StreamAssembler x = new StreamAssembler();
            Due.fill(x, s, 0, 3);
            for (int read = 0; read <= 3; read++) {
                Due.due("readable with " + read + " read", x.readable(s), 3 - read);
                Due.due("allowed with " + read + " read", x.allowed(s), 24 + read);
                Due.due("read of byte " + read, x.read(s), read < 3 ? Due.byteAt(read) : NOTHING);
            }
            Due.due("a refused read is not counted", x.allowed(s), 27);
        }
    }

    private static void highestOfKnownBytes() {
        Due.sentence("The HIGHEST of a stream is one more than the greatest offset of a known byte");
        for (int s = 0; s < 4; s++) {
            for (int offset = 0; offset < 24; offset++) {
                StreamAssembler x = new StreamAssembler();
                Due.due("piece", x.piece(s, offset, 1, 0), 1);
                Due.due("highest with byte " + offset, x.highest(s), offset + 1);
                Due.due("highest of another stream", x.highest((s + 1) % 4), 0);
            }
            StreamAssembler y = Due.readUpTo(s, 220);
            int[] last = {237, 238, 239};
            for (int offset : last) {
                Due.due("piece", y.piece(s, offset, 1, 0), 1);
                Due.due("highest with byte " + offset, y.highest(s), offset + 1);
            }
        }
    }

    private static void highestWithoutKnownBytes() {
        Due.sentence("or 0 if none is known");
        for (int s = 0; s < 4; s++) {
            StreamAssembler x = new StreamAssembler();
            Due.due("none known", x.highest(s), 0);
            Due.due("refused piece", x.piece(s, 24, 1, 0), FLOW);
            Due.due("still none known", x.highest(s), 0);
            Due.due("byte 0", x.piece(s, 0, 1, 0), 1);
            Due.due("one known", x.highest(s), 1);
            Due.due("read it", x.read(s), 0);
            Due.due("a read byte stays known", x.highest(s), 1);
        }
    }

    private static void highestIsTheEnd() {
        Due.sentence("once the END of the stream is known (see finish), the highest is the end");
        for (int s = 0; s < 4; s++) {
            int[] ends = {0, 1, 23, 24};
            for (int end : ends) {
                StreamAssembler x = new StreamAssembler();
                Due.due("finish at " + end, x.finish(s, end), 0);
                Due.due("highest, no byte known, end " + end, x.highest(s), end);
            }
            for (int end = 5; end <= 7; end++) {
                StreamAssembler x = new StreamAssembler();
                Due.due("piece up to 5", x.piece(s, 4, 1, 0), 1);
                Due.due("finish at " + end, x.finish(s, end), 0);
                Due.due("highest, 5 from bytes, end " + end, x.highest(s), end);
                Due.due("byte 0", x.piece(s, 0, 1, 0), 1);
                Due.due("read", x.read(s), 0);
                Due.due("highest stays the end", x.highest(s), end);
            }
        }
    }

    private static final int[] READ_POINTS = {0, 1, 2, 3, 100, 191, 192, 214, 215, 216};

    private static void limitOfAPiece() {
        Due.sentence("The LIMIT of a stream is its read point plus 24 (piece)");
        for (int readPoint : READ_POINTS) {
            for (int s = 0; s < 4; s++) {
                StreamAssembler x = Due.readUpTo(s, readPoint);
                Due.due("limit + 1 from " + readPoint, x.piece(s, readPoint + 24, 1, 0), FLOW);
                Due.due("limit - 1 from " + readPoint, x.piece(s, readPoint + 22, 1, 0), 1);
                Due.due("limit from " + readPoint, x.piece(s, readPoint + 23, 1, 0), 1);
                Due.due("limit + 1 from " + readPoint, x.piece(s, readPoint + 24, 1, 0), FLOW);
            }
        }
    }

    private static void limitOfAnEnd() {
        Due.sentence("The LIMIT of a stream is its read point plus 24 (finish)");
        for (int readPoint : READ_POINTS) {
            for (int s = 0; s < 4; s++) {
                StreamAssembler x = Due.readUpTo(s, readPoint);
                Due.due("limit + 1 from " + readPoint, x.finish(s, readPoint + 25), FLOW);
                Due.due("limit from " + readPoint, x.finish(s, readPoint + 24), 0);
                StreamAssembler y = Due.readUpTo(s, readPoint);
                Due.due("limit - 1 from " + readPoint, y.finish(s, readPoint + 23), 0);
            }
        }
    }

    private static final int[] LATE_READ_POINTS = {216, 217, 218, 238, 239};

    private static void neverMoreThan240ForAPiece() {
        Due.sentence("but never more than 240 (piece)");
        for (int s = 0; s < 4; s++) {
            for (int readPoint : LATE_READ_POINTS) {
                StreamAssembler x = Due.readUpTo(s, readPoint);
                for (int length = 1; length <= 4; length++) {
                    Due.due("up to 241 from " + readPoint, x.piece(s, 241 - length, length, 0), FLOW);
                }
                Due.due("up to 239 from " + readPoint, x.piece(s, 238, 1, 0), readPoint < 239 ? 1 : 0);
                Due.due("up to 240 from " + readPoint, x.piece(s, 239, 1, 0), 1);
                Due.due("up to 241 from " + readPoint, x.piece(s, 240, 1, 0), FLOW);
                Due.due("up to 264 from " + readPoint, x.piece(s, 263, 1, 0), FLOW);
            }
            StreamAssembler full = Due.readUpTo(s, 240);
            Due.due("up to 239, all read", full.piece(s, 235, 4, 0), 0);
            Due.due("up to 240, all read", full.piece(s, 236, 4, 0), 0);
            Due.due("up to 241, all read", full.piece(s, 237, 4, 0), FLOW);
            Due.due("up to 241, all read", full.piece(s, 240, 1, 0), FLOW);
        }
    }

    private static void neverMoreThan240ForAnEnd() {
        Due.sentence("but never more than 240 (finish)");
        for (int s = 0; s < 4; s++) {
            for (int readPoint : LATE_READ_POINTS) {
                StreamAssembler x = Due.readUpTo(s, readPoint);
                Due.due("end 241 from " + readPoint, x.finish(s, 241), FLOW);
                Due.due("end 264 from " + readPoint, x.finish(s, 264), FLOW);
                Due.due("end 240 from " + readPoint, x.finish(s, 240), 0);
                StreamAssembler y = Due.readUpTo(s, readPoint);
                Due.due("end 239 from " + readPoint, y.finish(s, 239), 0);
            }
            StreamAssembler full = Due.readUpTo(s, 240);
            Due.due("end 241, all read", full.finish(s, 241), FLOW);
            Due.due("end 240, all read", full.finish(s, 240), 0);
        }
    }

    /** A new object whose streams other than s have the highests 24, 20 and 2: 46 in all. */
    private static StreamAssembler sum46(int s) {
        StreamAssembler x = new StreamAssembler();
        Due.reach(x, (s + 1) % 4, 24);
        Due.due("an end counts as a highest", x.finish((s + 2) % 4, 20), 0);
        Due.reach(x, (s + 3) % 4, 2);
        return x;
    }

    private static final String SUM =
        "The sum of the highests of all four streams may not go beyond the sum of all four read points plus 56";

    private static void sumForAPiece() {
        Due.sentence(SUM + " (piece)");
        for (int s = 0; s < 4; s++) {
            for (int length = 1; length <= 4; length++) {
                StreamAssembler x = sum46(s);
                Due.due("sum 57", x.piece(s, 11 - length, length, 0), FLOW);
                Due.due("sum 55", x.piece(s, 9 - length, length, 0), length);
                Due.due("sum 57", x.piece(s, 11 - length, length, 0), FLOW);
                Due.due("sum 56", x.piece(s, 10 - length, length, 0), 1);
                Due.due("sum 57", x.piece(s, 11 - length, length, 0), FLOW);
                Due.due("sum 57 in another stream", x.piece((s + 3) % 4, 2, 1, 0), FLOW);
                Due.due("sum 56 again", x.piece(s, 4, 1, 0), 1);
            }
        }
    }

    private static void sumForAnEnd() {
        Due.sentence(SUM + " (finish)");
        for (int s = 0; s < 4; s++) {
            StreamAssembler x = sum46(s);
            Due.due("sum 57", x.finish(s, 11), FLOW);
            Due.due("sum 56", x.finish(s, 10), 0);
            Due.due("sum 57 in another stream", x.finish((s + 3) % 4, 3), FLOW);
            Due.due("sum 56 again", x.finish((s + 3) % 4, 2), 0);
            StreamAssembler y = sum46(s);
            Due.due("sum 55", y.finish(s, 9), 0);
            Due.due("sum 57 in another stream", y.finish((s + 3) % 4, 4), FLOW);
            Due.due("sum 56 in another stream", y.finish((s + 3) % 4, 3), 0);
        }
    }

    private static void sumGoesOnWithEachReadPoint() {
        Due.sentence(SUM + " (read points)");
        for (int reader = 0; reader < 4; reader++) {
            for (int s = 0; s < 4; s++) {
                if (s != reader) {
                    readPointsOf(reader, s);
                }
            }
        }
    }

    private static void readPointsOf(int reader, int s) {
        StreamAssembler x = new StreamAssembler();
        int others = 0;
        for (int t = 0; t < 4; t++) {
            if (t != reader && t != s) {
                Due.reach(x, t, 24);
                others += 24;
            }
        }
        Due.fill(x, reader, 0, 4);
        int left = 56 - others - 4;
        for (int read = 0; read <= 4; read++) {
            String state = read + " bytes of stream " + reader + " read";
            Due.due("one beyond, " + state, x.piece(s, left + read, 1, 0), FLOW);
            Due.due("up to the sum, " + state, x.piece(s, left + read - 1, 1, 0), 1);
            if (read < 4) {
                Due.reads(x, reader, read, read + 1);
            }
        }
    }
}
