import java.util.ArrayList;
import java.util.List;

/** States of an object that lie at a boundary of the document, each made by calls that are not refused. */
enum State {
    /** Nothing known. */
    NEW,
    /** Some read, some to be read, gaps in streams 0 to 2, no end but that of stream 2; stream 3 untouched. */
    GAPS,
    /** Highests 24, 22, 10 (an end) and 0: what is left is 0. */
    FULL,
    /** As FULL, but 1 is left. */
    ALMOST_FULL,
    /** Stream 0 is empty, stream 1 read to its end, stream 2 ends at its limit, stream 3 one byte before its end. */
    ENDS,
    /** Stream 1 is read up to 216, so that its limit is 240 for the first time. */
    LATE,
    /** Stream 0 is read up to 240 and has no end; streams 1 and 3 know their first bytes. */
    LONGEST,
    /** Stream 2 is read up to 240, its end; streams 1 and 3 know their first bytes. */
    LONGEST_ENDED,
    /** Stream 3, the last one, is read up to 239 and its end is 240. */
    ONE_SHORT;

    List<Call> calls() {
        List<Call> calls = new ArrayList<>();
        switch (this) {
            case NEW -> { }
            case GAPS -> gaps(calls);
            case FULL -> full(calls, 10);
            case ALMOST_FULL -> full(calls, 9);
            case ENDS -> ends(calls);
            case LATE -> {
                readTo(calls, 1, 216);
                calls.add(Call.piece(1, 230, 4, 0x0D0C0B0A));
            }
            case LONGEST -> {
                readTo(calls, 0, 240);
                firstBytes(calls);
            }
            case LONGEST_ENDED -> {
                readTo(calls, 2, 240);
                calls.add(Call.finish(2, 240));
                firstBytes(calls);
            }
            case ONE_SHORT -> {
                readTo(calls, 3, 239);
                calls.add(Call.finish(3, 240));
            }
        }
        return calls;
    }

    StreamAssembler make() {
        StreamAssembler x = new StreamAssembler();
        for (Call call : calls()) {
            if (call.on(x) < 0) {
                Due.fault(call + " was refused on the way to " + this);
            }
        }
        return x;
    }

    Model model() {
        Model model = new Model();
        for (Call call : calls()) {
            call.on(model);
        }
        return model;
    }

    private static void gaps(List<Call> calls) {
        calls.add(Call.piece(0, 0, 3, 0x030201));
        calls.add(Call.piece(0, 5, 2, 0x0706));
        calls.add(Call.read(0));
        calls.add(Call.piece(1, 3, 1, 0x13));
        calls.add(Call.piece(2, 1, 1, 0x21));
        calls.add(Call.finish(2, 6));
    }

    private static void full(List<Call> calls, int lastEnd) {
        calls.add(Call.piece(0, 0, 2, 0x0100));
        calls.add(Call.piece(0, 20, 4, 0x17161514));
        calls.add(Call.piece(1, 18, 4, 0x15141312));
        calls.add(Call.piece(2, 0, 2, 0x0908));
        calls.add(Call.finish(2, lastEnd));
    }

    private static void ends(List<Call> calls) {
        calls.add(Call.finish(0, 0));
        readTo(calls, 1, 4);
        calls.add(Call.finish(1, 4));
        calls.add(Call.piece(2, 2, 3, 0x070605));
        calls.add(Call.finish(2, 24));
        readTo(calls, 3, 7);
        calls.add(Call.piece(3, 7, 1, 0x77));
        calls.add(Call.finish(3, 8));
    }

    private static void firstBytes(List<Call> calls) {
        calls.add(Call.piece(1, 0, 4, 0x44332211));
        calls.add(Call.piece(3, 0, 4, 0x18171615));
    }

    private static void readTo(List<Call> calls, int stream, int offset) {
        for (int at = 0; at < offset; at += 4) {
            int length = Math.min(4, offset - at);
            calls.add(Call.piece(stream, at, length, at * 0x01030507));
            for (int k = 0; k < length; k++) {
                calls.add(Call.read(stream));
            }
        }
    }
}
