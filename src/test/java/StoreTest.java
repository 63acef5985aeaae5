/** Promises 14 to 17: put, poke, get, peek. */
public final class StoreTest {
    private static final Checks checks = new Checks();

    public static void main(String[] args) {
        registers();
        words();
        checks.close("StoreTest");
    }

    private static void registers() {
        FrameWalks x = new FrameWalks();
        for (int v = 0; v < 6; v++) {
            checks.due("first get " + v, x.get(v), 0);
            checks.due("put " + v, x.put(v, 100 + v), 0);
        }
        for (int v = 0; v < 6; v++) {
            checks.due("get " + v, x.get(v), 100 + v);
            checks.due("put again " + v, x.put(v, 9999), 100 + v);
            checks.due("put 0 " + v, x.put(v, 0), 9999);
            checks.dueBad("put 10000 " + v, x.put(v, 10000));
            checks.dueBad("put -1 " + v, x.put(v, -1));
            checks.due("refused " + v, x.get(v), 0);
        }
        checks.dueBad("put 6", x.put(6, 0));
        checks.dueBad("put -1", x.put(-1, 0));
        checks.dueBad("get 6", x.get(6));
        checks.dueBad("get -1", x.get(-1));
        checks.due("words untouched", x.count(4), 0);
    }

    private static void words() {
        FrameWalks x = new FrameWalks();
        for (int i = 0; i < 48; i++) {
            checks.due("first peek " + i, x.peek(i), 0);
            checks.due("poke " + i, x.poke(i, 200 + i), 0);
        }
        for (int i = 0; i < 48; i++) {
            checks.due("peek " + i, x.peek(i), 200 + i);
        }
        checks.due("poke again", x.poke(47, 9999), 247);
        checks.due("poke 0", x.poke(47, 0), 9999);
        checks.dueBad("poke 10000", x.poke(47, 10000));
        checks.dueBad("poke -1", x.poke(47, -1));
        checks.due("refused", x.peek(47), 0);
        checks.dueBad("poke of 48", x.poke(48, 0));
        checks.dueBad("poke of -1", x.poke(-1, 0));
        checks.dueBad("peek 48", x.peek(48));
        checks.dueBad("peek -1", x.peek(-1));
        checks.due("registers untouched", x.count(3), 0);
    }
}
