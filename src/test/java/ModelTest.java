/** Long runs of made-up calls, each answer compared with a slow model that follows the document word by word. */
public final class ModelTest {
    private static final int RUNS = 4000;
    private static final int CALLS = 512;

    private final StreamAssembler x = new StreamAssembler();
    private final int[][] bytes = new int[4][240];
    private final boolean[][] known = new boolean[4][240];
    private final int[] readPoint = new int[4];
    private final int[] end = {-1, -1, -1, -1};
    private long seed;

    private ModelTest(int run) {
        seed = run * 0x9E3779B97F4A7C15L + 1;
    }

    public static void main(String[] args) {
        for (int run = 0; run < RUNS; run++) {
            ModelTest model = new ModelTest(run);
            // Runs of different greed: some read all they can, some let the limits fill up, some finish early.
            int readShare = 10 + 15 * (run % 5);
            int finishShare = run % 7 == 0 ? 10 : 1;
            for (int call = 0; call < CALLS; call++) {
                model.step("run " + run + ", call " + call + ": ", readShare, finishShare);
            }
        }
        Due.end();
    }

    // A row of numbers fixed by the run, so that every run of this test makes the same calls.
    private int pick(int below) {
        seed = seed * 6364136223846793005L + 1442695040888963407L;
        return (int) ((seed >>> 33) % below);
    }

    private void step(String at, int readShare, int finishShare) {
        int stream = pick(50) == 0 ? pick(9) - 3 : pick(4);
        int share = pick(100);
        if (share < readShare) {
            Due.due(at + "read(" + stream + ")", x.read(stream), read(stream));
        } else if (share < readShare + finishShare) {
            int to = valid(stream) ? highest(stream) + pick(30) - 3 : pick(30);
            Due.due(at + "finish(" + stream + ", " + to + ")", x.finish(stream, to), finish(stream, to));
        } else if (share < 92) {
            stepPiece(at, stream);
        } else {
            stepQuestion(at, stream);
        }
    }

    private void stepPiece(String at, int stream) {
        int from = valid(stream) ? readPoint[stream] : 0;
        int spread = pick(3) == 0 ? 32 : 6;
        int offset = pick(60) == 0 ? pick(1010) - 3 : from + pick(spread) - 2;
        int length = pick(40) == 0 ? pick(8) - 2 : 1 + pick(4);
        int content = pick(1 << 16) << 16 | pick(1 << 16);
        String call = at + "piece(" + stream + ", " + offset + ", " + length + ", " + content + ")";
        Due.due(call, x.piece(stream, offset, length, content), piece(stream, offset, length, content));
    }

    private void stepQuestion(String at, int stream) {
        switch (pick(6)) {
            case 0 -> Due.due(at + "readable(" + stream + ")", x.readable(stream), readable(stream));
            case 1 -> Due.due(at + "highest(" + stream + ")", x.highest(stream), valid(stream) ? highest(stream) : -1);
            case 2 -> Due.due(at + "gaps(" + stream + ")", x.gaps(stream), gaps(stream));
            case 3 -> {
                int number = pick(8) - 2;
                Due.due(at + "gap(" + stream + ", " + number + ")", x.gap(stream, number), gap(stream, number));
            }
            case 4 -> Due.due(at + "allowed(" + stream + ")", x.allowed(stream), allowed(stream));
            default -> Due.due(at + "complete(" + stream + ")", x.complete(stream), complete(stream));
        }
    }

    private static boolean valid(int stream) {
        return 0 <= stream && stream <= 3;
    }

    private int highest(int stream) {
        if (end[stream] >= 0) {
            return end[stream];
        }
        for (int offset = 239; offset >= 0; offset--) {
            if (known[stream][offset]) {
                return offset + 1;
            }
        }
        return 0;
    }

    private boolean flows(int stream, int past) {
        if (past > Math.min(readPoint[stream] + 24, 240)) {
            return true;
        }
        int highests = 0;
        int readPoints = 0;
        for (int s = 0; s < 4; s++) {
            highests += s == stream ? Math.max(highest(s), past) : highest(s);
            readPoints += readPoint[s];
        }
        return highests > readPoints + 56;
    }

    private int piece(int stream, int offset, int length, int content) {
        if (!valid(stream) || length < 1 || length > 4 || offset < 0 || offset > 1000) {
            return -1;
        }
        if (end[stream] >= 0 && offset + length > end[stream]) {
            return -3;
        }
        if (flows(stream, offset + length)) {
            return -2;
        }
        int count = 0;
        for (int k = 0; k < length; k++) {
            if (offset + k >= readPoint[stream] && !known[stream][offset + k]) {
                known[stream][offset + k] = true;
                bytes[stream][offset + k] = (content >> 8 * k) & 255;
                count++;
            }
        }
        return count;
    }

    private int finish(int stream, int to) {
        if (!valid(stream) || to < 0) {
            return -1;
        }
        if (end[stream] >= 0 && end[stream] != to || to < highest(stream)) {
            return -3;
        }
        if (flows(stream, to)) {
            return -2;
        }
        end[stream] = to;
        return 0;
    }

    private int read(int stream) {
        if (!valid(stream)) {
            return -1;
        }
        if (end[stream] == readPoint[stream]) {
            return -5;
        }
        if (readPoint[stream] == 240 || !known[stream][readPoint[stream]]) {
            return -4;
        }
        return bytes[stream][readPoint[stream]++];
    }

    private int readable(int stream) {
        if (!valid(stream)) {
            return -1;
        }
        int offset = readPoint[stream];
        while (offset < 240 && known[stream][offset]) {
            offset++;
        }
        return offset - readPoint[stream];
    }

    private int gaps(int stream) {
        if (!valid(stream)) {
            return -1;
        }
        int count = 0;
        while (gap(stream, count) >= 0) {
            count++;
        }
        return count;
    }

    private int gap(int stream, int number) {
        if (!valid(stream)) {
            return -1;
        }
        int offset = readPoint[stream];
        for (int n = 0; n <= number; n++) {
            while (offset < highest(stream) && known[stream][offset]) {
                offset++;
            }
            if (offset == highest(stream)) {
                return -4;
            }
            if (n == number) {
                return offset;
            }
            while (offset < highest(stream) && !known[stream][offset]) {
                offset++;
            }
        }
        return -4;
    }

    private int allowed(int stream) {
        if (!valid(stream)) {
            return -1;
        }
        if (end[stream] >= 0) {
            return end[stream];
        }
        int past = 0;
        for (int tried = 1; tried <= 1004; tried++) {
            if (!flows(stream, tried)) {
                past = tried;
            }
        }
        return past;
    }

    private int complete(int stream) {
        if (!valid(stream)) {
            return -1;
        }
        return end[stream] == readPoint[stream] ? 1 : 0;
    }
}
