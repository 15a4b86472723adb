/** Promise 8: gap. */
public final class Promise08GapTest {
    private static final int NOTHING = StreamAssembler.NOTHING;

    public static void main(String[] args) {
        StreamAssembler x = new StreamAssembler();
        Due.due("nothing known", x.gap(0, 0), NOTHING);
        Due.due("piece at 4", x.piece(0, 4, 2, 0), 2);
        Due.due("piece at 9", x.piece(0, 9, 1, 0), 1);
        Due.due("finish at 12", x.finish(0, 12), 0);
        Due.due("gap 0", x.gap(0, 0), 0);
        Due.due("gap 1", x.gap(0, 1), 6);
        Due.due("gap 2", x.gap(0, 2), 10);
        Due.due("gap 3", x.gap(0, 3), NOTHING);
        Due.due("gap -1", x.gap(0, -1), NOTHING);
        Due.due("gap least", x.gap(0, Integer.MIN_VALUE), NOTHING);
        Due.due("gap greatest", x.gap(0, Integer.MAX_VALUE), NOTHING);
        Due.due("other stream", x.gap(1, 0), NOTHING);
        Due.due("piece at 0", x.piece(0, 0, 2, 0), 2);
        Due.due("gap 0 begins later", x.gap(0, 0), 2);
        Due.due("read", x.read(0), 0);
        Due.due("read", x.read(0), 0);
        Due.due("gap 0 at the read point", x.gap(0, 0), 2);
        Due.due("piece at 2", x.piece(0, 2, 2, 0), 2);
        Due.due("gap 0 is the old gap 1", x.gap(0, 0), 6);
        Due.due("gap 1 is the old gap 2", x.gap(0, 1), 10);
        Due.due("piece at 6", x.piece(0, 6, 3, 0), 3);
        Due.due("piece at 10", x.piece(0, 10, 2, 0), 2);
        Due.due("no gap", x.gap(0, 0), NOTHING);

        StreamAssembler y = new StreamAssembler();
        for (int offset = 1; offset < 24; offset += 2) {
            Due.due("piece at " + offset, y.piece(2, offset, 1, 0), 1);
        }
        for (int number = 0; number < 12; number++) {
            Due.due("gap " + number, y.gap(2, number), 2 * number);
        }
        Due.due("gap 12", y.gap(2, 12), NOTHING);
        Due.end();
    }
}
