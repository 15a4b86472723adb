/** Every piece, end and question on a grid around all boundaries, in every state, compared with the model. */
public final class GridTest {
    private static final int[] FAR = {
        Integer.MIN_VALUE, Integer.MIN_VALUE + 3, 998, 999, 1000, 1001, 1002, 1 << 30,
        Integer.MAX_VALUE - 3, Integer.MAX_VALUE};

    public static void main(String[] args) {
        for (State state : State.values()) {
            for (int stream = -1; stream <= 4; stream++) {
                Due.sentence("stream " + stream + " in the state " + state);
                int middle = Model.valid(stream) ? state.model().readPoint(stream) : 0;
                for (int near = -5; near <= 32; near++) {
                    at(state, stream, middle + near);
                }
                for (int far : FAR) {
                    at(state, stream, far);
                }
            }
        }
        Due.end();
    }

    private static void at(State state, int stream, int number) {
        for (int length = -1; length <= 6; length++) {
            check(state, Call.piece(stream, number, length, 0x84838281));
        }
        check(state, Call.finish(stream, number));
        check(state, Call.gap(stream, number));
    }

    private static void check(State state, Call call) {
        StreamAssembler x = state.make();
        Model model = state.model();
        String in = " in the state " + state;
        Due.due(call + in, call.on(x), call.on(model));
        String after = " after " + call + in;
        for (int s = 0; s < 4; s++) {
            Due.due("readable(" + s + ")" + after, x.readable(s), model.readable(s));
            Due.due("highest(" + s + ")" + after, x.highest(s), model.highest(s));
            Due.due("gaps(" + s + ")" + after, x.gaps(s), model.gaps(s));
            Due.due("allowed(" + s + ")" + after, x.allowed(s), model.allowed(s));
            Due.due("complete(" + s + ")" + after, x.complete(s), model.complete(s));
            Due.due("read(" + s + ")" + after, x.read(s), model.read(s));
        }
    }
}
