/** Promise 5: readable. */
public final class Promise05ReadableTest {
    public static void main(String[] args) {
        StreamAssembler x = new StreamAssembler();
        Due.due("nothing known", x.readable(0), 0);
        Due.due("piece at 4", x.piece(0, 4, 2, 0), 2);
        Due.due("a gap at the read point", x.readable(0), 0);
        Due.due("piece at 0", x.piece(0, 0, 3, 0), 3);
        Due.due("up to the gap", x.readable(0), 3);
        Due.due("asking changes nothing", x.readable(0), 3);
        Due.due("other stream", x.readable(1), 0);
        Due.due("read", x.read(0), 0);
        Due.due("from the read point on", x.readable(0), 2);
        Due.due("piece at 3", x.piece(0, 3, 1, 0), 1);
        Due.due("without the gap", x.readable(0), 5);
        Due.due("finish beyond", x.finish(0, 8), 0);
        Due.due("the end makes no byte known", x.readable(0), 5);
        Due.due("piece up to the end", x.piece(0, 6, 2, 0), 2);
        Due.due("up to the end", x.readable(0), 7);
        for (int k = 0; k < 7; k++) {
            Due.due("read", x.read(0), 0);
        }
        Due.due("all read", x.readable(0), 0);

        StreamAssembler y = new StreamAssembler();
        Due.fill(y, 3, 0, 24);
        Due.due("a full window", y.readable(3), 24);
        Due.readTo(y, 3, 24);
        Due.due("an empty window", y.readable(3), 0);
        Due.end();
    }
}
