/** Long runs of made-up calls, each answer compared with the model's. */
public final class ModelTest {
    private static final int RUNS = 4000;
    private static final int CALLS = 512;

    private final StreamAssembler x = new StreamAssembler();
    private final Model model = new Model();
    private long seed;

    private ModelTest(int run) {
        seed = run * 0x9E3779B97F4A7C15L + 1;
    }

    public static void main(String[] args) {
        Due.sentence("An object is used for at most 512 calls after it has been made");
        for (int run = 0; run < RUNS; run++) {
            ModelTest test = new ModelTest(run);
            // Runs of different greed: some read all they can, some let the limits fill up, some finish early.
            int readShare = 10 + 15 * (run % 5);
            int finishShare = run % 7 == 0 ? 10 : 1;
            // Every second run begins late in a stream, because few runs would come to its greatest length.
            int begun = run % 2 == 0 ? 0 : test.readTo(run / 2 % 4, 192 + run % 49, "run " + run + ": ");
            for (int call = begun; call < CALLS; call++) {
                test.step("run " + run + ", call " + call + ": ", readShare, finishShare);
            }
        }
        Due.end();
    }

    // A row of numbers fixed by the run, so that every run of this test makes the same calls.
    private int pick(int below) {
        seed = seed * 6364136223846793005L + 1442695040888963407L;
        return (int) ((seed >>> 33) % below);
    }

    /** Reads a new object's stream up to the offset, and answers how many calls that took. */
    private int readTo(int stream, int offset, String at) {
        int calls = 0;
        for (int from = 0; from < offset; from += 4) {
            int length = Math.min(4, offset - from);
            int content = pick(1 << 16) << 16 | pick(1 << 16);
            String call = at + "piece(" + stream + ", " + from + ", " + length + ", " + content + ")";
            Due.due(call, x.piece(stream, from, length, content), model.piece(stream, from, length, content));
            calls++;
            for (int k = 0; k < length; k++) {
                Due.due(at + "read(" + stream + ")", x.read(stream), model.read(stream));
                calls++;
            }
        }
        return calls;
    }

    private void step(String at, int readShare, int finishShare) {
        int stream = pick(50) == 0 ? pick(9) - 3 : pick(4);
        int share = pick(100);
        if (share < readShare) {
            Due.due(at + "read(" + stream + ")", x.read(stream), model.read(stream));
        } else if (share < readShare + finishShare) {
            int to = Model.valid(stream) ? model.highest(stream) + pick(30) - 3 : pick(30);
            Due.due(at + "finish(" + stream + ", " + to + ")", x.finish(stream, to), model.finish(stream, to));
        } else if (share < 92) {
            stepPiece(at, stream);
        } else {
            stepQuestion(at, stream);
        }
    }

    private void stepPiece(String at, int stream) {
        int from = Model.valid(stream) ? model.readPoint(stream) : 0;
        int spread = pick(3) == 0 ? 32 : 6;
        int offset = pick(60) == 0 ? pick(1010) - 3 : from + pick(spread) - 2;
        int length = pick(40) == 0 ? pick(8) - 2 : 1 + pick(4);
        int content = pick(1 << 16) << 16 | pick(1 << 16);
        String call = at + "piece(" + stream + ", " + offset + ", " + length + ", " + content + ")";
        Due.due(call, x.piece(stream, offset, length, content), model.piece(stream, offset, length, content));
    }

    private void stepQuestion(String at, int stream) {
        switch (pick(6)) {
            case 0 -> Due.due(at + "readable(" + stream + ")", x.readable(stream), model.readable(stream));
            case 1 -> Due.due(at + "highest(" + stream + ")", x.highest(stream), model.highest(stream));
            case 2 -> Due.due(at + "gaps(" + stream + ")", x.gaps(stream), model.gaps(stream));
            case 3 -> {
                int number = pick(8) - 2;
                Due.due(at + "gap(" + stream + ", " + number + ")", x.gap(stream, number), model.gap(stream, number));
            }
            case 4 -> Due.due(at + "allowed(" + stream + ")", x.allowed(stream), model.allowed(stream));
            default -> Due.due(at + "complete(" + stream + ")", x.complete(stream), model.complete(stream));
        }
    }
}
