/** Promises 26 to 32: keep, back, sheet, lay, read, torn, count. */
public final class SheetsTest {
    private static final Checks checks = new Checks();

    public static void main(String[] args) {
        images();
        imagesOfAll();
        imagesRefused();
        sheets();
        lanes();
        layRefused();
        read();
        readTorn();
        readRefused();
        tornStays();
        readOfNothing();
        counts();
        checks.close("SheetsTest");
    }

    private static void images() {
        FrameWalks x = Checks.telling("fun 1 2;fun 3 4;");
        checks.due("keep", x.keep(0), 0);
        checks.due("keep again", x.keep(0), 1);
        checks.due("keep 1", x.keep(1), 0);
        checks.due("images", x.count(0), 2);
        x.put(0, 5);
        x.keep(1);
        x.put(0, 6);
        x.walk(0);
        checks.due("back 0", x.back(0), 2);
        checks.due("register", x.get(0), 0);
        checks.due("no walk", x.rule(4), Checks.NONE);
        checks.due("caught", x.caught(1, 0), Checks.STATE);
        checks.due("back 1", x.back(1), 2);
        checks.due("register of 1", x.get(0), 5);
        checks.due("images stay", x.count(0), 2);
        x.put(0, 7);
        checks.due("back 1 again", x.back(1), 2);
        checks.due("register again", x.get(0), 5);
        FrameWalks empty = new FrameWalks();
        empty.keep(1);
        checks.due("back to no routines", empty.back(1), 0);
    }

    private static void imagesOfAll() {
        FrameWalks x = Checks.telling("fun 10 19;go 3;land 1 2 3 4;call 5 6;");
        x.put(Checks.P, 77);
        x.poke(47, 78);
        x.keep(0);
        x.move(0, 0, 9);
        x.alter(0, 50);
        x.put(Checks.P, 1);
        x.poke(47, 2);
        x.poke(0, 3);
        Checks.feed(x, "fun");
        x.sheet(0, 1, 5);
        x.back(0);
        checks.due("from", x.routine(0, 0), 10);
        checks.due("n of go", x.op(0, 2), 3);
        checks.due("landings", x.landing(0, 3), 4);
        checks.due("calls", x.call(0, 1), 6);
        checks.due("register", x.get(Checks.P), 77);
        checks.due("word", x.peek(47), 78);
        checks.due("word 0", x.peek(0), 0);
        checks.due("the tape is not of it", x.count(1), 3);
        checks.due("sheets are not of it", x.count(2), 5);
    }

    private static void imagesRefused() {
        FrameWalks x = new FrameWalks();
        checks.dueBad("keep 2", x.keep(2));
        checks.dueBad("keep -1", x.keep(-1));
        checks.dueBad("back 2", x.back(2));
        checks.dueBad("back -1", x.back(-1));
        checks.due("back", x.back(0), Checks.STATE);
        x.keep(0);
        checks.due("back of the other", x.back(1), Checks.STATE);
        x.walk(0);
        x.back(1);
        checks.due("refused: the walk stays", x.rule(4), 1);
    }

    private static void sheets() {
        FrameWalks x = new FrameWalks();
        for (int k = 0; k < 4; k++) {
            checks.due("sheet " + k, x.sheet(k, k % 3, 10 + k), 1);
            checks.due("last cell " + k, x.lay(k, 9 + k, 1), 1);
            checks.due("behind the last cell " + k, x.lay(k, 10 + k, 1), -12);
        }
        checks.due("40 cells", x.sheet(0, 0, 40), 1);
        checks.due("cells", x.count(2), 40);
        checks.due("0 cells", x.sheet(0, 0, 0), 1);
        checks.due("no cells", x.count(2), 0);
        checks.due("no cell 0", x.lay(0, 0, 1), -12);
        checks.dueBad("41", x.sheet(0, 0, 41));
        checks.due("-1", x.sheet(0, 0, -1), -14);
        checks.due("least", x.sheet(0, 0, Integer.MIN_VALUE), -14);
        checks.dueBad("sheet 4", x.sheet(4, 0, 1));
        checks.dueBad("sheet -1", x.sheet(-1, 0, 1));
        checks.dueBad("lane 3", x.sheet(0, 3, 1));
        checks.dueBad("lane -1", x.sheet(0, -1, 1));
        checks.dueBad("lane ahead of size", x.sheet(0, 3, -1));
        checks.due("refused: it stays", x.count(2), 0);
        x.sheet(2, 2, 3);
        x.lay(2, 1, 5);
        x.sheet(2, 2, 3);
        x.poke(1, 9);
        checks.due("read of a new sheet", x.read(2, 2, 0, 3, 0), 3);
        checks.due("its cells are 0", x.peek(1), 0);
    }

    private static void dueCell(int lane, int v, int want) {
        FrameWalks x = new FrameWalks();
        x.sheet(1, lane, 2);
        checks.due("lay " + v, x.lay(1, 1, v), 1);
        boolean taken = want >= 0 && want <= 9999;
        checks.due("read " + v + " of lane " + lane, x.read(1, lane, 1, 1, 7), taken ? 1 : -20);
        checks.due("word by " + v + " of lane " + lane, x.peek(7), taken ? want : 0);
    }

    private static void lanes() {
        int[] values = {0, 1, 127, 128, 255, 256, 300, -1, -128, -129, -200, 9999, 10000, 32767, 32768, 65536, 65543,
            70000, 1 << 20, Integer.MAX_VALUE, Integer.MIN_VALUE, Integer.MIN_VALUE + 5};
        for (int v : values) {
            dueCell(0, v, (byte) v);
            dueCell(1, v, (short) v);
            dueCell(2, v, v);
        }
    }

    private static void layRefused() {
        FrameWalks x = new FrameWalks();
        checks.dueBad("sheet 4", x.lay(4, 0, 0));
        checks.dueBad("sheet -1", x.lay(-1, 0, 0));
        checks.due("nothing", x.lay(3, -1, 0), -11);
        x.sheet(3, 0, 2);
        checks.due("index -1", x.lay(3, -1, 0), -12);
        checks.due("index 2", x.lay(3, 2, 0), -12);
        checks.due("index of the greatest", x.lay(3, Integer.MAX_VALUE, 0), -12);
        checks.due("torn is not asked for this", x.torn(), 0);
    }

    private static FrameWalks laid(int lane, int... cells) {
        FrameWalks x = new FrameWalks();
        x.sheet(0, lane, cells.length);
        for (int i = 0; i < cells.length; i++) {
            x.lay(0, i, cells[i]);
        }
        return x;
    }

    private static void read() {
        FrameWalks x = laid(1, 5, 6, 7, 8);
        checks.due("read of cell 0", x.read(0, 1, 0, 1, 0), 1);
        checks.due("cell 0", x.poke(0, 0), 5);
        checks.due("read", x.read(0, 1, 1, 3, 45), 3);
        checks.due("torn", x.torn(), 0);
        checks.due("word 44", x.peek(44), 0);
        checks.due("word 45", x.peek(45), 6);
        checks.due("word 46", x.peek(46), 7);
        checks.due("word 47", x.peek(47), 8);
        checks.due("words", x.count(4), 21);
        FrameWalks all = new FrameWalks();
        all.sheet(0, 2, 40);
        for (int i = 0; i < 40; i++) {
            all.lay(0, i, i);
        }
        checks.due("40 words", all.read(0, 2, 0, 40, 8), 40);
        checks.due("sum", all.count(4), 780);
        checks.due("last", all.peek(47), 39);
    }

    private static void readTorn() {
        FrameWalks x = laid(1, 5, 6, 7, 8);
        checks.due("beyond the end", x.read(0, 1, 2, 4, 0), 2);
        checks.due("index", x.torn(), 2);
        checks.due("those ahead came", x.peek(1), 8);
        checks.due("no more", x.peek(2), 0);
        checks.due("other lane", x.read(0, 2, 0, 4, 0), 0);
        checks.due("cast", x.torn(), 3);
        checks.due("cast ahead of index", x.read(0, 0, -1, 4, 0), 0);
        checks.due("cast", x.torn(), 3);
        checks.due("nothing", x.read(1, 1, -1, 4, 0), 0);
        checks.due("null", x.torn(), 1);
        checks.due("below 0", x.read(0, 1, -1, 4, 0), 0);
        checks.due("index", x.torn(), 2);
        checks.due("greatest", x.read(0, 1, Integer.MAX_VALUE, 4, 0), 0);
        checks.due("least", x.read(0, 1, Integer.MIN_VALUE, 4, 0), 0);
        checks.due("the machine ahead of poke", x.read(0, 1, 4, 1, 99), 0);
        checks.due("index", x.torn(), 2);
        checks.due("all is well", x.read(0, 1, 3, 1, 0), 1);
        checks.due("none", x.torn(), 0);
    }

    private static void readRefused() {
        FrameWalks x = laid(1, 5, 10000, -1, 9999);
        x.poke(0, 3);
        checks.due("too great", x.read(0, 1, 0, 4, 0), -21);
        checks.due("none came", x.peek(0), 3);
        checks.due("below 0", x.read(0, 1, 2, 1, 0), -20);
        checks.due("9999", x.read(0, 1, 3, 1, 0), 1);
        checks.due("it came", x.peek(0), 9999);
        checks.due("word 48", x.read(0, 1, 0, 1, 48), -20);
        checks.due("word -1", x.read(0, 1, 0, 1, -1), -20);
        checks.due("greatest word", x.read(0, 1, 0, 2, Integer.MAX_VALUE), -20);
        FrameWalks whole = laid(2, 1, 2, 3, 4);
        checks.due("words run out", whole.read(0, 2, 0, 4, 46), -22);
        checks.due("none came", whole.count(4), 0);
        checks.due("poke ahead of the machine", whole.read(0, 2, 2, 4, 47), -21);
        checks.dueBad("sheet 4", x.read(4, 1, 0, 1, 0));
        checks.dueBad("sheet -1", x.read(-1, 1, 0, 1, 0));
        checks.dueBad("lane 3", x.read(0, 3, 0, 1, 0));
        checks.dueBad("lane -1", x.read(0, -1, 0, 1, 0));
        checks.dueBad("n 41", x.read(0, 1, 0, 41, 0));
        checks.dueBad("n -1", x.read(0, 1, 0, -1, 0));
        checks.dueBad("n 41 of nothing", x.read(3, 1, 0, 41, 0));
    }

    private static void tornStays() {
        FrameWalks x = laid(1, 5, 10000);
        x.read(0, 2, 0, 1, 0);
        checks.due("cast", x.torn(), 3);
        x.read(0, 1, 1, 1, 0);
        checks.due("refused by poke: not an end", x.torn(), 3);
        x.read(0, 1, 0, 41, 0);
        checks.due("refused: not an end", x.torn(), 3);
        x.read(0, 1, 0, 1, 0);
        checks.due("an end", x.torn(), 0);
    }

    private static void readOfNothing() {
        FrameWalks x = laid(1, 5);
        x.read(0, 1, 1, 1, 0);
        checks.due("index", x.torn(), 2);
        checks.due("no words", x.read(0, 1, 99, 0, 99), 0);
        checks.due("an end", x.torn(), 0);
        checks.due("no words of nothing", x.read(1, 1, 0, 0, 0), 0);
        checks.due("nothing is looked at", x.torn(), 0);
    }

    private static void counts() {
        FrameWalks x = new FrameWalks();
        x.keep(1);
        checks.due("images", x.count(0), 1);
        x.feed(65);
        checks.due("bytes", x.count(1), 1);
        x.sheet(1, 0, 7);
        checks.due("sheet 0 has nothing", x.count(2), Checks.NONE);
        x.sheet(0, 0, 7);
        checks.due("cells", x.count(2), 7);
        for (int v = 0; v < 6; v++) {
            x.put(v, 9999);
        }
        checks.due("registers", x.count(3), 6 * 9999);
        for (int i = 0; i < 48; i++) {
            x.poke(i, 9999);
        }
        checks.due("words", x.count(4), 48 * 9999);
        checks.dueBad("count 5", x.count(5));
        checks.dueBad("count -1", x.count(-1));
    }
}
