/** The 512 calls of an object: all of them answer as due, and calls beyond them may answer anything but never fail. */
public final class CallsTest {
    public static void main(String[] args) {
        upToTheLastCall();
        refusedCallsAreCalls();
        beyondTheLastCall();
        Due.end();
    }

    private static void upToTheLastCall() {
        Due.sentence("An object is used for at most 512 calls after it has been made");
        StreamAssembler x = new StreamAssembler();
        // 120 bytes of two streams and 8 of the others, a piece and a read for each: 512 calls in all.
        int calls = 0;
        for (int at = 0; at < 120; at++) {
            for (int s = 0; s < 4; s++) {
                if (s < 2 || at < 8) {
                    Due.due("piece, call " + ++calls, x.piece(s, at, 1, at + s), 1);
                    Due.due("read, call " + ++calls, x.read(s), at + s);
                }
            }
        }
        Due.due("how many calls there were", calls, 512);
    }

    private static void refusedCallsAreCalls() {
        Due.sentence("An object is used for at most 512 calls (refused ones)");
        StreamAssembler x = new StreamAssembler();
        for (int call = 1; call <= 509; call++) {
            Due.due("read, call " + call, x.read(call % 6 - 1), call % 6 == 0 || call % 6 == 5 ? -1 : -4);
        }
        Due.due("call 510", x.piece(3, 20, 4, 7), 4);
        Due.due("call 511", x.highest(3), 24);
        Due.due("call 512", x.allowed(3), 24);
    }

    private static void beyondTheLastCall() {
        Due.sentence("what later calls answer is free");
        StreamAssembler x = new StreamAssembler();
        for (int at = 0; at < 300; at++) {
            for (int s = -1; s <= 4; s++) {
                x.piece(s, at, 4, at);
                x.read(s);
                x.readable(s);
                x.highest(s);
                x.gaps(s);
                x.gap(s, 0);
                x.allowed(s);
                x.complete(s);
            }
        }
        for (int s = 0; s < 4; s++) {
            x.finish(s, 240);
            x.read(s);
        }
    }
}
