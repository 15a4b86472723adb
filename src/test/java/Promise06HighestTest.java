/** Promise 6: highest. */
public final class Promise06HighestTest {
    public static void main(String[] args) {
        StreamAssembler x = new StreamAssembler();
        Due.due("nothing known", x.highest(2), 0);
        Due.due("piece at 7", x.piece(2, 7, 3, 0), 3);
        Due.due("one more than the greatest offset", x.highest(2), 10);
        Due.due("piece at 0", x.piece(2, 0, 4, 0), 4);
        Due.due("a lower piece does not move it", x.highest(2), 10);
        Due.due("piece at 9", x.piece(2, 9, 2, 0), 1);
        Due.due("an overlapping piece moves it", x.highest(2), 11);
        for (int k = 0; k < 4; k++) {
            Due.due("read", x.read(2), 0);
        }
        Due.due("reads do not move it", x.highest(2), 11);
        Due.due("refused piece", x.piece(2, 28, 1, 0), StreamAssembler.FLOW);
        Due.due("a refused piece does not move it", x.highest(2), 11);
        Due.due("refused finish", x.finish(2, 29), StreamAssembler.FLOW);
        Due.due("a refused end does not move it", x.highest(2), 11);
        Due.due("finish", x.finish(2, 20), 0);
        Due.due("the end is the highest", x.highest(2), 20);
        Due.due("piece below the end", x.piece(2, 12, 1, 0), 1);
        Due.due("the end stays the highest", x.highest(2), 20);
        Due.due("other stream", x.highest(1), 0);

        StreamAssembler y = new StreamAssembler();
        Due.readTo(y, 0, 5);
        Due.due("read bytes stay known", y.highest(0), 5);
        Due.end();
    }
}
