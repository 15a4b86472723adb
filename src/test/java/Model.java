/** A slow model that follows the document word by word, to compare the class with. */
final class Model {
    private final int[][] bytes = new int[4][240];
    private final boolean[][] known = new boolean[4][240];
    private final int[] readPoint = new int[4];
    private final int[] end = {-1, -1, -1, -1};

    static boolean valid(int stream) {
        return 0 <= stream && stream <= 3;
    }

    int highest(int stream) {
        if (!valid(stream)) {
            return -1;
        }
        if (end[stream] >= 0) {
            return end[stream];
        }
        for (int offset = 239; offset >= 0; offset--) {
            if (known[stream][offset]) {
                return offset + 1;
            }
        }
        return 0;
    }

    int readPoint(int stream) {
        return readPoint[stream];
    }

    boolean endIsKnown(int stream) {
        return end[stream] >= 0;
    }

    private boolean flows(int stream, int past) {
        if (past > Math.min(readPoint[stream] + 24, 240)) {
            return true;
        }
        int highests = 0;
        int readPoints = 0;
        for (int s = 0; s < 4; s++) {
            highests += s == stream ? Math.max(highest(s), past) : highest(s);
            readPoints += readPoint[s];
        }
        return highests > readPoints + 56;
    }

    int piece(int stream, int offset, int length, int content) {
        if (!valid(stream) || length < 1 || length > 4 || offset < 0 || offset > 1000) {
            return -1;
        }
        if (end[stream] >= 0 && offset + length > end[stream]) {
            return -3;
        }
        if (flows(stream, offset + length)) {
            return -2;
        }
        int count = 0;
        for (int k = 0; k < length; k++) {
            if (offset + k >= readPoint[stream] && !known[stream][offset + k]) {
                known[stream][offset + k] = true;
                bytes[stream][offset + k] = (content >> 8 * k) & 255;
                count++;
            }
        }
        return count;
    }

    int finish(int stream, int to) {
        if (!valid(stream) || to < 0) {
            return -1;
        }
        if (end[stream] >= 0 && end[stream] != to || to < highest(stream)) {
            return -3;
        }
        if (flows(stream, to)) {
            return -2;
        }
        end[stream] = to;
        return 0;
    }

    int read(int stream) {
        if (!valid(stream)) {
            return -1;
        }
        if (end[stream] == readPoint[stream]) {
            return -5;
        }
        if (readPoint[stream] == 240 || !known[stream][readPoint[stream]]) {
            return -4;
        }
        return bytes[stream][readPoint[stream]++];
    }

    int readable(int stream) {
        if (!valid(stream)) {
            return -1;
        }
        int offset = readPoint[stream];
        while (offset < 240 && known[stream][offset]) {
            offset++;
        }
        return offset - readPoint[stream];
    }

    int gaps(int stream) {
        if (!valid(stream)) {
            return -1;
        }
        int count = 0;
        while (gap(stream, count) >= 0) {
            count++;
        }
        return count;
    }

    int gap(int stream, int number) {
        if (!valid(stream)) {
            return -1;
        }
        int offset = readPoint[stream];
        for (int n = 0; n <= number; n++) {
            while (offset < highest(stream) && known[stream][offset]) {
                offset++;
            }
            if (offset == highest(stream)) {
                return -4;
            }
            if (n == number) {
                return offset;
            }
            while (offset < highest(stream) && !known[stream][offset]) {
                offset++;
            }
        }
        return -4;
    }

    int allowed(int stream) {
        if (!valid(stream)) {
            return -1;
        }
        if (end[stream] >= 0) {
            return end[stream];
        }
        int past = 0;
        for (int tried = 1; tried <= 1004; tried++) {
            if (!flows(stream, tried)) {
                past = tried;
            }
        }
        return past;
    }

    int complete(int stream) {
        if (!valid(stream)) {
            return -1;
        }
        return end[stream] == readPoint[stream] ? 1 : 0;
    }
}
