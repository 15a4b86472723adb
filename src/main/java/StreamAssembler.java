/** The receiving side of four byte streams; ../shared/DOC.md says what each call promises. */
public final class StreamAssembler {
    public static final int BAD = -1;
    public static final int FLOW = -2;
    public static final int FINAL = -3;
    public static final int NOTHING = -4;
    public static final int ENDED = -5;

    private static final int STREAMS = 4;
    private static final int LONGEST_STREAM = 240;
    private static final int LONGEST_PIECE = 4;
    private static final int GREATEST_OFFSET = 1000;
    private static final int STREAM_WINDOW = 24;
    private static final int TOTAL_WINDOW = 56;
    // One row of cells for all streams, because the language rules leave no arrays of arrays.
    private static final int CELLS = STREAMS * LONGEST_STREAM;

    private final boolean[] known = new boolean[CELLS];
    private final int[] values = new int[CELLS];
    private final int[] readPoints = new int[STREAMS];
    // Once an end is known it is the highest, so the end itself needs no field.
    private final int[] highests = new int[STREAMS];
    private final boolean[] endKnown = new boolean[STREAMS];

    public StreamAssembler() {
    }

    public int piece(int stream, int offset, int length, int bytes) {
        if (!isStream(stream) || !isPiece(offset, length)) {
            return BAD;
        }
        int past = offset + length;
        if (endKnown[stream] && past > highests[stream]) {
            return FINAL;
        }
        if (past > flowBound(stream)) {
            return FLOW;
        }
        if (past > highests[stream]) {
            highests[stream] = past;
        }
        return learn(stream, offset, length, bytes);
    }

    public int finish(int stream, int end) {
        if (!isStream(stream) || end < 0) {
            return BAD;
        }
        if (end < highests[stream] || (endKnown[stream] && end != highests[stream])) {
            return FINAL;
        }
        if (end > flowBound(stream)) {
            return FLOW;
        }
        highests[stream] = end;
        endKnown[stream] = true;
        return 0;
    }

    public int read(int stream) {
        if (!isStream(stream)) {
            return BAD;
        }
        int offset = readPoints[stream];
        if (endKnown[stream] && offset == highests[stream]) {
            return ENDED;
        }
        if (!isKnown(stream, offset)) {
            return NOTHING;
        }
        readPoints[stream] = offset + 1;
        return values[stream * LONGEST_STREAM + offset];
    }

    public int readable(int stream) {
        if (!isStream(stream)) {
            return BAD;
        }
        int count = 0;
        for (int offset = readPoints[stream]; offset < highests[stream]; offset++) {
            if (!isKnown(stream, offset)) {
                break;
            }
            count++;
        }
        return count;
    }

    public int highest(int stream) {
        if (!isStream(stream)) {
            return BAD;
        }
        return highests[stream];
    }

    public int gaps(int stream) {
        if (!isStream(stream)) {
            return BAD;
        }
        int count = 0;
        for (int offset = readPoints[stream]; offset < highests[stream]; offset++) {
            if (gapBeginsAt(stream, offset)) {
                count++;
            }
        }
        return count;
    }

    public int gap(int stream, int number) {
        if (!isStream(stream)) {
            return BAD;
        }
        int count = 0;
        for (int offset = readPoints[stream]; offset < highests[stream]; offset++) {
            if (gapBeginsAt(stream, offset)) {
                if (count == number) {
                    return offset;
                }
                count++;
            }
        }
        return NOTHING;
    }

    public int allowed(int stream) {
        if (!isStream(stream)) {
            return BAD;
        }
        if (endKnown[stream]) {
            return highests[stream];
        }
        return flowBound(stream);
    }

    public int complete(int stream) {
        if (!isStream(stream)) {
            return BAD;
        }
        return endKnown[stream] && readPoints[stream] == highests[stream] ? 1 : 0;
    }

    private static boolean isStream(int stream) {
        return stream >= 0 && stream < STREAMS;
    }

    private static boolean isPiece(int offset, int length) {
        return length >= 1 && length <= LONGEST_PIECE && offset >= 0 && offset <= GREATEST_OFFSET;
    }

    private boolean isKnown(int stream, int offset) {
        // A stream that has been read to its greatest length has no cell at its read point.
        return offset < LONGEST_STREAM && known[stream * LONGEST_STREAM + offset];
    }

    private boolean gapBeginsAt(int stream, int offset) {
        if (isKnown(stream, offset)) {
            return false;
        }
        return offset == readPoints[stream] || isKnown(stream, offset - 1);
    }

    private int learn(int stream, int offset, int length, int bytes) {
        int learned = 0;
        for (int k = 0; k < length; k++) {
            // The flow check in piece has kept offset + length at or below LONGEST_STREAM.
            int cell = stream * LONGEST_STREAM + offset + k;
            // Bytes that have been read stay known, so they need no test of their own.
            if (!known[cell]) {
                known[cell] = true;
                values[cell] = (bytes >> 8 * k) & 255;
                learned++;
            }
        }
        return learned;
    }

    private int limit(int stream) {
        int limit = readPoints[stream] + STREAM_WINDOW;
        return limit < LONGEST_STREAM ? limit : LONGEST_STREAM;
    }

    // One number stands for both limits: what is left is never below 0, so a piece
    // that does not raise the highest never breaks the shared limit.
    private int flowBound(int stream) {
        int own = limit(stream);
        int shared = highests[stream] + left();
        return own < shared ? own : shared;
    }

    private int left() {
        int left = TOTAL_WINDOW;
        for (int stream = 0; stream < STREAMS; stream++) {
            left += readPoints[stream] - highests[stream];
        }
        return left;
    }
}
