/** Promise 1: a new object knows no byte and no end, and shares nothing with another object. */
public final class Promise01NewObjectTest {
    public static void main(String[] args) {
        StreamAssembler used = new StreamAssembler();
        for (int s = 0; s < 4; s++) {
            Due.due("used piece " + s, used.piece(s, 0, 4, 0x04030201), 4);
            Due.due("used read " + s, used.read(s), 1);
            Due.due("used finish " + s, used.finish(s, 4), 0);
        }
        StreamAssembler x = new StreamAssembler();
        for (int s = 0; s < 4; s++) {
            Due.due("readable(" + s + ")", x.readable(s), 0);
            Due.due("highest(" + s + ")", x.highest(s), 0);
            Due.due("gaps(" + s + ")", x.gaps(s), 0);
            Due.due("gap(" + s + ", 0)", x.gap(s, 0), StreamAssembler.NOTHING);
            Due.due("allowed(" + s + ")", x.allowed(s), 24);
            Due.due("complete(" + s + ")", x.complete(s), 0);
            Due.due("read(" + s + ")", x.read(s), StreamAssembler.NOTHING);
        }
        Due.end();
    }
}
