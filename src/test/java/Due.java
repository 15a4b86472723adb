/** Counts and prints the answers that are not as due; every test ends with {@link #end}. */
final class Due {
    private static int wrong = 0;

    private Due() {
    }

    static void due(String what, long got, long want) {
        if (got != want) {
            wrong++;
            System.out.println(what + " answered " + got + ", due is " + want);
        }
    }

    static void fault(String what) {
        wrong++;
        System.out.println(what);
    }

    static void end() {
        System.out.println(wrong == 0 ? "all answers are as due" : wrong + " answers are not as due");
        if (wrong != 0) {
            System.exit(1);
        }
    }

    /** Knows the bytes from..below-1 of the stream, each one its own offset, one piece a byte. */
    static void fill(StreamAssembler x, int stream, int from, int below) {
        for (int offset = from; offset < below; offset++) {
            due("fill: piece(" + stream + ", " + offset + ", 1, " + offset + ")", x.piece(stream, offset, 1, offset), 1);
        }
    }

    /** Knows and reads bytes until the read point of the stream, whose bytes up to there are known, is the offset. */
    static void readTo(StreamAssembler x, int stream, int offset) {
        for (int at = x.highest(stream) - x.readable(stream); at < offset; at++) {
            x.piece(stream, at, 1, at);
            due("readTo: read(" + stream + ") at " + at, x.read(stream), at & 255);
        }
    }

    /** All that an object tells without a change, in one text, so that two states can be compared. */
    static String look(StreamAssembler x) {
        StringBuilder text = new StringBuilder();
        for (int s = 0; s < 4; s++) {
            text.append(s).append(": readable ").append(x.readable(s)).append(", highest ").append(x.highest(s));
            text.append(", allowed ").append(x.allowed(s)).append(", complete ").append(x.complete(s)).append(", gaps");
            for (int n = 0; n < x.gaps(s); n++) {
                text.append(' ').append(x.gap(s, n));
            }
            text.append("; ");
        }
        return text.toString();
    }

    static void unchanged(String what, StreamAssembler x, String before) {
        String after = look(x);
        if (!after.equals(before)) {
            fault(what + " changed\n  " + before + "\nto\n  " + after);
        }
    }
}
