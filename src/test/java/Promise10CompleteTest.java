/** Promise 10: complete. */
public final class Promise10CompleteTest {
    public static void main(String[] args) {
        theEndIsKnown();
        allBytesRead();
        anEmptyStream();
        theEndComesLast();
        atTheGreatestLength();
        wrongStream();
        Due.end();
    }

    private static void theEndIsKnown() {
        Due.sentence("1 if the end is known (else 0)");
        for (int s = 0; s < 4; s++) {
            StreamAssembler x = new StreamAssembler();
            Due.due("nothing known, nothing read", x.complete(s), 0);
            Due.readTo(x, s, 0, 2);
            Due.due("all known bytes read, no end", x.complete(s), 0);
            Due.due("a refused end", x.finish(s, 1), StreamAssembler.FINAL);
            Due.due("all known bytes read, a refused end", x.complete(s), 0);
            Due.due("a refused end", x.finish(s, 27), StreamAssembler.FLOW);
            Due.due("all known bytes read, a refused end", x.complete(s), 0);
            Due.due("the end of another stream", x.finish((s + 1) % 4, 0), 0);
            Due.due("all known bytes read, the end of another stream", x.complete(s), 0);
        }
    }

    private static void allBytesRead() {
        Due.sentence("and all bytes below it have been read, else 0");
        int[] ends = {1, 2, 23, 24};
        for (int s = 0; s < 4; s++) {
            for (int end : ends) {
                StreamAssembler x = new StreamAssembler();
                Due.due("finish at " + end, x.finish(s, end), 0);
                Due.due("none known, end " + end, x.complete(s), 0);
                Due.fill(x, s, 0, end);
                for (int read = 0; read < end; read++) {
                    Due.due(read + " read, end " + end, x.complete(s), 0);
                    Due.reads(x, s, read, read + 1);
                }
                Due.due("all read, end " + end, x.complete(s), 1);
                Due.due("a refused read", x.read(s), StreamAssembler.ENDED);
                Due.due("a refused piece", x.piece(s, end, 1, 0), StreamAssembler.FINAL);
                Due.due("a refused end", x.finish(s, end + 1), StreamAssembler.FINAL);
                Due.due("still complete", x.complete(s), 1);
                Due.due("other stream", x.complete((s + 1) % 4), 0);
            }
            StreamAssembler y = new StreamAssembler();
            Due.fill(y, s, 0, 2);
            Due.due("finish at 3", y.finish(s, 3), 0);
            Due.reads(y, s, 0, 2);
            Due.due("a refused read", y.read(s), StreamAssembler.NOTHING);
            Due.due("the last byte is missing", y.complete(s), 0);
            Due.fill(y, s, 2, 3);
            Due.due("the last byte is not read", y.complete(s), 0);
            Due.reads(y, s, 2, 3);
            Due.due("the last byte is read", y.complete(s), 1);
        }
    }

    private static void anEmptyStream() {
        Due.sentence("1 if the end is known and all bytes below it have been read (end 0)");
        for (int s = 0; s < 4; s++) {
            StreamAssembler x = new StreamAssembler();
            Due.due("no end", x.complete(s), 0);
            Due.due("finish at -1", x.finish(s, -1), StreamAssembler.BAD);
            Due.due("a refused end", x.complete(s), 0);
            Due.due("finish at 0", x.finish(s, 0), 0);
            Due.due("end 0", x.complete(s), 1);
            Due.due("other stream", x.complete((s + 1) % 4), 0);
        }
    }

    private static void theEndComesLast() {
        Due.sentence("1 if the end is known and all bytes below it have been read (the end comes last)");
        for (int end = 4; end <= 5; end++) {
            StreamAssembler x = Due.readUpTo(2, 4);
            Due.due("finish at " + end, x.finish(2, end), 0);
            Due.due("4 read, end " + end, x.complete(2), end == 4 ? 1 : 0);
        }
    }

    private static void atTheGreatestLength() {
        Due.sentence("1 if the end is known and all bytes below it have been read (240 bytes)");
        for (int s = 0; s < 4; s++) {
            StreamAssembler x = Due.readUpTo(s, 239);
            Due.due("finish at 240", x.finish(s, 240), 0);
            Due.due("239 read, end 240", x.complete(s), 0);
            Due.readTo(x, s, 239, 240);
            Due.due("240 read, end 240", x.complete(s), 1);
            StreamAssembler y = Due.readUpTo(s, 240);
            Due.due("240 read, no end", y.complete(s), 0);
            Due.due("finish at 240", y.finish(s, 240), 0);
            Due.due("240 read, then the end", y.complete(s), 1);
        }
    }

    private static void wrongStream() {
        Due.sentence("BAD");
        StreamAssembler x = new StreamAssembler();
        Due.due("finish at 0", x.finish(0, 0), 0);
        Due.due("finish at 0", x.finish(3, 0), 0);
        int[] wrong = {-1, 4, -2, 5, 1 << 30, Integer.MAX_VALUE, Integer.MIN_VALUE};
        for (int stream : wrong) {
            Due.due("complete(" + stream + ")", x.complete(stream), StreamAssembler.BAD);
        }
        for (int s = 0; s < 4; s++) {
            Due.due("complete(" + s + ")", x.complete(s), s == 0 || s == 3 ? 1 : 0);
        }
    }
}
