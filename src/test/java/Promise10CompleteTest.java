/** Promise 10: complete. */
public final class Promise10CompleteTest {
    public static void main(String[] args) {
        StreamAssembler x = new StreamAssembler();
        Due.due("nothing known, nothing read", x.complete(0), 0);
        Due.due("piece", x.piece(0, 0, 2, 0), 2);
        Due.due("read 0", x.read(0), 0);
        Due.due("read 1", x.read(0), 0);
        Due.due("all known bytes read, no end", x.complete(0), 0);
        Due.due("finish at 3", x.finish(0, 3), 0);
        Due.due("a byte missing", x.complete(0), 0);
        Due.due("piece", x.piece(0, 2, 1, 9), 1);
        Due.due("a byte not read", x.complete(0), 0);
        Due.due("read 2", x.read(0), 9);
        Due.due("all read", x.complete(0), 1);
        Due.due("ended", x.read(0), StreamAssembler.ENDED);
        Due.due("still complete", x.complete(0), 1);
        Due.due("other stream", x.complete(1), 0);
        Due.due("finish an empty stream", x.finish(3, 0), 0);
        Due.due("an empty stream", x.complete(3), 1);
        Due.readTo(x, 2, 4);
        Due.due("all read, no end", x.complete(2), 0);
        Due.due("finish at the read point", x.finish(2, 4), 0);
        Due.due("the end comes last", x.complete(2), 1);
        Due.end();
    }
}
