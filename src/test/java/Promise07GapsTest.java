/** Promise 7: gaps. */
public final class Promise07GapsTest {
    public static void main(String[] args) {
        StreamAssembler x = new StreamAssembler();
        Due.due("nothing known", x.gaps(1), 0);
        Due.due("piece at 0", x.piece(1, 0, 2, 0), 2);
        Due.due("no gap", x.gaps(1), 0);
        Due.due("piece at 5", x.piece(1, 5, 1, 0), 1);
        Due.due("one long gap", x.gaps(1), 1);
        Due.due("piece at 3", x.piece(1, 3, 1, 0), 1);
        Due.due("the gap in two", x.gaps(1), 2);
        Due.due("other stream", x.gaps(0), 0);
        Due.due("finish at 6", x.finish(1, 6), 0);
        Due.due("an end at the highest adds none", x.gaps(1), 2);
        Due.due("piece at 2", x.piece(1, 2, 1, 0), 1);
        Due.due("one gap closed", x.gaps(1), 1);
        Due.due("piece at 4", x.piece(1, 4, 1, 0), 1);
        Due.due("all gaps closed", x.gaps(1), 0);

        StreamAssembler y = new StreamAssembler();
        Due.due("piece at 1", y.piece(0, 1, 1, 0), 1);
        Due.due("a gap at the read point", y.gaps(0), 1);
        Due.due("finish at 2", y.finish(0, 2), 0);
        Due.due("no gap at the end", y.gaps(0), 1);
        Due.due("finish at 4", y.finish(3, 4), 0);
        Due.due("all below the end is one gap", y.gaps(3), 1);
        Due.due("piece at 1", y.piece(3, 1, 1, 0), 1);
        Due.due("a gap up to the end", y.gaps(3), 2);
        Due.due("piece at 0", y.piece(3, 0, 1, 0), 1);
        Due.due("read 0", y.read(3), 0);
        Due.due("read 1", y.read(3), 0);
        Due.due("the gap at a later read point", y.gaps(3), 1);

        StreamAssembler z = new StreamAssembler();
        for (int offset = 1; offset < 24; offset += 2) {
            Due.due("piece at " + offset, z.piece(2, offset, 1, 0), 1);
        }
        Due.due("as many gaps as can be", z.gaps(2), 12);
        Due.end();
    }
}
