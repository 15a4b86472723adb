import java.util.HashSet;
import java.util.Set;

/**
 * Counts and prints the answers that are not as due. A test names with {@link #sentence} the words
 * of the document that the checks after it are about, and ends with {@link #end}.
 */
final class Due {
    private static String sentence = "";
    private static final Set<String> SENTENCES = new HashSet<>();
    private static int answers = 0;
    private static int wrong = 0;

    private Due() {
    }

    static void sentence(String words) {
        sentence = words;
        SENTENCES.add(words);
    }

    static void due(String what, long got, long want) {
        answers++;
        if (got != want) {
            wrong++;
            System.out.println("'" + sentence + "': " + what + " answered " + got + ", due is " + want);
        }
    }

    static void fault(String what) {
        wrong++;
        System.out.println("'" + sentence + "': " + what);
    }

    static void end() {
        String counts = SENTENCES.size() + " sentences, " + answers + " answers, ";
        System.out.println(counts + (wrong == 0 ? "all as due" : wrong + " not as due"));
        if (wrong != 0) {
            System.exit(1);
        }
    }

    /** The byte that {@link #fill} and {@link #readTo} put at an offset; it is never the offset itself. */
    static int byteAt(int offset) {
        return (offset * 7 + 3) & 255;
    }

    /** Knows the bytes from..below-1 of the stream, none of which is known, in pieces of up to four. */
    static void fill(StreamAssembler x, int stream, int from, int below) {
        for (int at = from; at < below; at += 4) {
            int length = Math.min(4, below - at);
            int bytes = 0;
            for (int k = 0; k < length; k++) {
                bytes |= byteAt(at + k) << 8 * k;
            }
            due("fill: piece(" + stream + ", " + at + ", " + length + ", ..)", x.piece(stream, at, length, bytes), length);
        }
    }

    /** Knows and reads bytes from the read point on, where nothing is known, until the read point is the offset. */
    static void readTo(StreamAssembler x, int stream, int readPoint, int offset) {
        for (int at = readPoint; at < offset; at += 4) {
            int below = Math.min(at + 4, offset);
            fill(x, stream, at, below);
            reads(x, stream, at, below);
        }
    }

    /** Reads the bytes from..below-1, which {@link #fill} has put there. */
    static void reads(StreamAssembler x, int stream, int from, int below) {
        for (int at = from; at < below; at++) {
            due("read(" + stream + ") at " + at, x.read(stream), byteAt(at));
        }
    }

    /** A new object, one stream of which has been read up to the offset. */
    static StreamAssembler readUpTo(int stream, int offset) {
        StreamAssembler x = new StreamAssembler();
        readTo(x, stream, 0, offset);
        return x;
    }

    /** Makes the highest of a stream what it says, by one byte; 0 leaves the stream as it is. */
    static void reach(StreamAssembler x, int stream, int highest) {
        if (highest > 0) {
            due("reach: piece(" + stream + ", " + (highest - 1) + ", 1, 1)", x.piece(stream, highest - 1, 1, 1), 1);
        }
    }

    /** All that an object tells without a change, in one text, so that two states can be compared. */
    static String look(StreamAssembler x) {
        StringBuilder text = new StringBuilder();
        for (int s = 0; s < 4; s++) {
            text.append(s).append(": readable ").append(x.readable(s)).append(", highest ").append(x.highest(s));
            text.append(", allowed ").append(x.allowed(s)).append(", complete ").append(x.complete(s)).append(", gaps");
            int gaps = x.gaps(s);
            for (int n = 0; n < gaps; n++) {
                text.append(' ').append(x.gap(s, n));
            }
            text.append("; ");
        }
        return text.toString();
    }

    static void unchanged(String what, StreamAssembler x, String before) {
        answers++;
        String after = look(x);
        if (!after.equals(before)) {
            fault(what + " changed\n  " + before + "\nto\n  " + after);
        }
    }
}
