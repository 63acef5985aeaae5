/** SHEETS, and promises 28 to 32: sheet, lay, read, torn, count. */
final class EdgesOfSheets {
    private static final int BAD = Edges.BAD, NONE = Edges.NONE;
    private static final int NULL = 1, INDEX = 2, CAST = 3, SIZE = 4;

    static void run(Edges e) {
        sheetsAre(e);
        faultsAre(e);
        sheet(e);
        sheetRefused(e);
        lay(e);
        layRefused(e);
        read(e);
        readTorn(e);
        readBad(e);
        readRefusedByPoke(e);
        torn(e);
        counts(e);
        countBad(e);
    }

    private static FrameWalks laid(int lane, int... cells) {
        FrameWalks x = new FrameWalks();
        x.sheet(1, lane, cells.length);
        for (int i = 0; i < cells.length; i++) {
            x.lay(1, i, cells[i]);
        }
        return x;
    }

    private static void sheetsAre(Edges e) {
        e.terms("SHEETS 0 to 3 are rows of BYTES (lane 0), SHORTS (1), INTS (2) with 0 to 40 CELLS, or nothing (at first).");
        for (int k = 0; k < 4; k++) {
            for (int lane = 0; lane < 3; lane++) {
                for (int n : new int[] {0, 1, 39, 40}) {
                    FrameWalks x = new FrameWalks();
                    e.is(-10 - NULL, x.lay(k, 0, 0));
                    e.is(1, x.sheet(k, lane, n));
                    e.is(n, x.read(k, lane, 0, 40, 0));
                    e.is(n == 40 ? 0 : INDEX, x.torn());
                    e.is(n == 0 ? -10 - INDEX : 1, x.lay(k, n - 1, 5));
                    e.is(-10 - INDEX, x.lay(k, n, 5));
                    e.is(-10 - NULL, x.lay((k + 1) % 4, 0, 0));
                }
            }
        }
        e.all(BAD, new FrameWalks().lay(4, 0, 0), new FrameWalks().lay(-1, 0, 0));
    }

    private static void faultsAre(Edges e) {
        e.terms("A FAULT is what the machine finds: 1 NULL (nothing), 2 INDEX, 3 CAST (another lane), 4 SIZE (below 0).");
        FrameWalks x = laid(1, 5, 6);
        e.is(0, x.read(0, 1, 0, 1, 0));
        e.is(NULL, x.torn());
        e.is(0, x.read(1, 1, 2, 1, 0));
        e.is(INDEX, x.torn());
        e.is(0, x.read(1, 0, 0, 1, 0));
        e.is(CAST, x.torn());
        e.is(0, x.read(1, 2, 0, 1, 0));
        e.is(CAST, x.torn());
        e.is(-10 - NULL, x.lay(0, 0, 0));
        e.is(-10 - INDEX, x.lay(1, 2, 0));
        e.is(-10 - SIZE, x.sheet(1, 1, -1));
        e.is(0, x.read(0, 1, -1, 1, 0));
        e.is(NULL, x.torn());
        e.is(0, x.read(1, 2, 2, 1, 0));
        e.is(CAST, x.torn());
    }

    private static void sheet(Edges e) {
        e.promise(28, "A SHEET is a new row of CELLS 0: 1.");
        FrameWalks x = laid(2, 7, 8, 9);
        e.is(1, x.sheet(1, 2, 3));
        Checks.pokeAll(x, 0, 1, 1, 1);
        e.is(3, x.read(1, 2, 0, 3, 0));
        e.is(0, x.count(4));
        x.lay(1, 2, 9);
        e.is(1, x.sheet(1, 0, 2));
        e.is(1, x.sheet(1, 2, 40));
        e.is(40, x.read(1, 2, 0, 40, 0));
        e.is(0, x.count(4));
        e.is(1, x.sheet(1, 1, 0));
        e.is(-10 - INDEX, x.lay(1, 0, 1));
        e.is(0, x.read(1, 2, 0, 1, 0));
        e.is(CAST, x.torn());
        e.is(0, x.read(1, 1, 0, 1, 0));
        e.is(INDEX, x.torn());
    }

    private static void sheetRefused(Edges e) {
        e.promise(28, "BAD: also n above 40; -10 - 4.");
        for (int wrong : new int[] {-1, 4, NONE, Edges.LEAST, Edges.GREATEST}) {
            e.refused(BAD, x -> x.sheet(wrong, 0, 1));
            e.refused(BAD, x -> x.sheet(wrong, 0, -1));
        }
        for (int wrong : new int[] {-1, 3, NONE, Edges.LEAST, Edges.GREATEST}) {
            e.refused(BAD, x -> x.sheet(0, wrong, 1));
            e.refused(BAD, x -> x.sheet(0, wrong, -1));
        }
        for (int wrong : new int[] {41, 42, Edges.GREATEST}) {
            e.refused(BAD, x -> x.sheet(0, 0, wrong));
            e.refused(BAD, x -> x.sheet(3, 2, wrong));
        }
        for (int below : new int[] {-1, -41, Edges.LEAST}) {
            e.refused(-14, x -> x.sheet(0, 0, below));
            e.refused(-14, x -> x.sheet(3, 2, below));
        }
        FrameWalks x = Edges.RICH.get();
        e.is(1, x.sheet(0, 0, 40));
        e.is(1, x.sheet(0, 2, 0));
    }

    private static void lay(Edges e) {
        e.promise(29, "CELL i of a SHEET becomes v (its lowest bits): 1.");
        int[] laid = {0, 127, 128, 255, 256, 256 + 127, -1, -128, -129, -256, 9999, 10000, 32767, 32768, 65535, 65536, 65536 + 9999,
            -65536, 1 << 24, Edges.GREATEST, Edges.LEAST, Edges.LEAST + 127};
        for (int v : laid) {
            dueCell(e, 0, v, (byte) v);
            dueCell(e, 1, v, (short) v);
            dueCell(e, 2, v, v);
        }
        FrameWalks x = laid(0, 1, 2, 3);
        e.is(1, x.lay(1, 1, 9));
        e.is(3, x.read(1, 0, 0, 3, 0));
        e.is(1, x.peek(0));
        e.is(9, x.peek(1));
        e.is(3, x.peek(2));
    }

    /** What a CELL has become is seen by reading it: a number that poke() takes comes, another is refused. */
    private static void dueCell(Edges e, int lane, int v, int want) {
        FrameWalks x = new FrameWalks();
        x.sheet(3, lane, 40);
        e.is(1, x.lay(3, 39, v));
        x.poke(7, 4321);
        boolean comes = want >= 0 && want <= 9999;
        e.is(comes ? 1 : -20, x.read(3, lane, 39, 1, 7));
        e.is(comes ? want : 4321, x.peek(7));
    }

    private static void layRefused(Edges e) {
        e.promise(29, "BAD: k; -10 less the FAULT: NULL, INDEX.");
        for (int wrong : new int[] {-1, 4, NONE, Edges.LEAST, Edges.GREATEST}) {
            e.refused(BAD, x -> x.lay(wrong, 0, 1));
            e.refused(BAD, x -> x.lay(wrong, -1, 1));
        }
        for (int i : new int[] {0, -1, 40, Edges.LEAST, Edges.GREATEST}) {
            e.refused(-11, x -> x.lay(2, i, 1));
            e.refused(-11, x -> x.lay(3, i, 1));
        }
        for (int i : new int[] {-1, 3, 39, 40, Edges.LEAST, Edges.GREATEST}) {
            e.refused(-12, x -> x.lay(0, i, 1));
        }
        e.refused(-12, x -> x.lay(1, 2, 1));
        FrameWalks x = Edges.RICH.get();
        e.all(1, x.lay(0, 0, 1), x.lay(0, 2, 1), x.lay(1, 1, 1));
    }

    private static void read(Edges e) {
        e.promise(30, "n (0 to 40) WORDS, from WORD i on, are read of a SHEET taken as of a lane, a CELL each from CELL f on, one"
            + " behind another as by poke(): how many came.");
        FrameWalks x = laid(1, 5, 6, 0, 9999);
        e.is(4, x.read(1, 1, 0, 4, 44));
        e.is(0, x.torn());
        e.is(0, x.peek(43));
        e.is(5, x.peek(44));
        e.is(6, x.peek(45));
        e.is(0, x.peek(46));
        e.is(9999, x.peek(47));
        e.is(1, x.read(1, 1, 3, 1, 0));
        e.is(9999, x.peek(0));
        e.is(0, x.peek(1));
        e.is(1, x.read(1, 1, 0, 1, 47));
        e.is(5, x.peek(47));
        int words = x.count(4);
        for (int i : new int[] {0, 47, 48, -1, Edges.LEAST, Edges.GREATEST}) {
            e.is(0, x.read(1, 1, i, 0, i));
            e.is(0, x.torn());
        }
        e.is(words, x.count(4));
        FrameWalks most = new FrameWalks();
        most.sheet(0, 2, 40);
        for (int i = 0; i < 40; i++) {
            most.lay(0, i, 100 + i);
        }
        e.is(40, most.read(0, 2, 0, 40, 8));
        for (int i = 0; i < 48; i++) {
            e.is(i < 8 ? 0 : 92 + i, most.peek(i));
        }
        e.is(40, most.read(0, 2, 0, 40, 0));
        e.is(139, most.peek(39));
    }

    private static void readTorn(Edges e) {
        e.promise(30, "What the machine refuses: those ahead came (its FAULT is asked by torn()).");
        FrameWalks x = laid(0, 5, 6, 7);
        e.is(3, x.read(1, 0, 0, 4, 0));
        e.is(INDEX, x.torn());
        e.is(18, x.count(4));
        e.is(1, x.read(1, 0, 2, 40, 47));
        e.is(INDEX, x.torn());
        e.is(7, x.peek(47));
        e.is(0, x.read(1, 0, 3, 1, 0));
        e.is(INDEX, x.torn());
        for (int f : new int[] {-1, -40, 40, Edges.LEAST, Edges.GREATEST, Edges.GREATEST - 3}) {
            e.is(0, x.read(1, 0, f, 40, 0));
            e.is(INDEX, x.torn());
            e.is(0, x.read(1, 1, f, 40, 0));
            e.is(CAST, x.torn());
            e.is(0, x.read(2, 1, f, 40, 0));
            e.is(NULL, x.torn());
        }
        e.is(25, x.count(4));
        for (int i : new int[] {-1, 48, Edges.LEAST, Edges.GREATEST}) {
            e.is(0, x.read(1, 0, 3, 1, i));
            e.is(INDEX, x.torn());
            e.is(0, x.read(1, 2, 0, 1, i));
            e.is(CAST, x.torn());
            e.is(0, x.read(0, 2, 0, 1, i));
            e.is(NULL, x.torn());
        }
        e.is(25, x.count(4));
    }

    private static void readBad(Edges e) {
        e.promise(30, "BAD: k, lane, n;");
        for (int wrong : new int[] {-1, 4, NONE, Edges.LEAST, Edges.GREATEST}) {
            e.refused(BAD, x -> x.read(wrong, 1, 0, 1, 0));
        }
        for (int wrong : new int[] {-1, 3, NONE, Edges.LEAST, Edges.GREATEST}) {
            e.refused(BAD, x -> x.read(0, wrong, 0, 1, 0));
            e.refused(BAD, x -> x.read(2, wrong, 0, 0, 0));
        }
        for (int wrong : new int[] {-1, 41, NONE, Edges.LEAST, Edges.GREATEST}) {
            e.refused(BAD, x -> x.read(0, 1, 0, wrong, 0));
            e.refused(BAD, x -> x.read(2, 1, -1, wrong, 48));
        }
    }

    private static FrameWalks mixed() {
        FrameWalks x = laid(2, 5, 10000, 9999, -1, 0, 6);
        x.poke(0, 1);
        x.poke(47, 2);
        x.read(1, 0, 0, 1, 0);
        return x;
    }

    private static void readRefusedByPoke(Edges e) {
        e.promise(30, "-20 less i: the i-th is refused by poke(): then none came; the first met.");
        e.refused(-21, EdgesOfSheets::mixed, x -> x.read(1, 2, 0, 6, 0));
        e.refused(-20, EdgesOfSheets::mixed, x -> x.read(1, 2, 1, 1, 0));
        e.refused(-21, EdgesOfSheets::mixed, x -> x.read(1, 2, 2, 4, 0));
        e.refused(-20, EdgesOfSheets::mixed, x -> x.read(1, 2, 3, 1, 0));
        e.refused(-20, EdgesOfSheets::mixed, x -> x.read(1, 2, 0, 1, 48));
        e.refused(-20, EdgesOfSheets::mixed, x -> x.read(1, 2, 0, 1, -1));
        e.refused(-20, EdgesOfSheets::mixed, x -> x.read(1, 2, 0, 2, -1));
        e.refused(-20, EdgesOfSheets::mixed, x -> x.read(1, 2, 0, 1, Edges.LEAST));
        e.refused(-20, EdgesOfSheets::mixed, x -> x.read(1, 2, 4, 2, Edges.GREATEST));
        e.refused(-21, EdgesOfSheets::mixed, x -> x.read(1, 2, 4, 2, 47));
        e.refused(-21, EdgesOfSheets::mixed, x -> x.read(1, 2, 4, 40, 47));
        e.is(1, mixed().read(1, 2, 5, 40, 47));
        e.is(2, mixed().read(1, 2, 4, 2, 46));
        e.is(1, mixed().read(1, 2, 2, 1, 0));
        FrameWalks most = new FrameWalks();
        most.sheet(0, 0, 40);
        e.is(-59, most.read(0, 0, 0, 40, 9));
        most.sheet(0, 1, 40);
        most.lay(0, 39, -1);
        e.is(-59, most.read(0, 1, 0, 40, 0));
        e.is(39, most.read(0, 1, 0, 39, 0));
    }

    private static void torn(Edges e) {
        e.promise(31, "The FAULT of the latest read() that came to an end; 0.");
        FrameWalks x = mixed();
        e.is(0, new FrameWalks().torn());
        e.is(CAST, x.torn());
        e.is(CAST, x.torn());
        e.is(BAD, x.read(1, 2, 0, 41, 0));
        e.is(CAST, x.torn());
        e.is(-21, x.read(1, 2, 0, 6, 0));
        e.is(CAST, x.torn());
        e.is(-12, x.lay(1, 6, 0));
        e.is(-11, x.lay(0, 0, 0));
        e.is(-14, x.sheet(0, 0, -1));
        e.is(CAST, x.torn());
        e.is(0, x.read(0, 0, 0, 1, 0));
        e.is(NULL, x.torn());
        e.is(2, x.read(1, 2, 4, 3, 0));
        e.is(INDEX, x.torn());
        x.keep(0);
        x.back(0);
        x.text();
        e.is(INDEX, x.torn());
        e.is(1, x.read(1, 2, 5, 1, 0));
        e.is(0, x.torn());
        e.is(-20, x.read(1, 2, 3, 1, 0));
        e.is(0, x.torn());
    }

    private static void counts(Edges e) {
        e.promise(32, "How many: 0 IMAGES, 1 bytes on THE TAPE, 2 CELLS of SHEET 0 (NONE: nothing), 3 REGISTERS summed, 4 WORDS"
            + " summed.");
        FrameWalks x = new FrameWalks();
        e.is(0, x.count(0));
        x.keep(1);
        e.is(1, x.count(0));
        x.keep(1);
        e.is(1, x.count(0));
        x.keep(0);
        e.is(2, x.count(0));
        e.is(0, x.count(1));
        x.feed(0);
        e.is(1, x.count(1));
        e.is(NONE, x.count(2));
        x.sheet(1, 0, 5);
        e.is(NONE, x.count(2));
        x.sheet(0, 0, 0);
        e.is(0, x.count(2));
        x.sheet(0, 2, 40);
        e.is(40, x.count(2));
        x.sheet(0, 2, -1);
        e.is(40, x.count(2));
        e.is(0, x.count(3));
        e.is(0, x.count(4));
        for (int v = 0; v < 6; v++) {
            x.put(v, 9999);
        }
        e.is(59994, x.count(3));
        e.is(0, x.count(4));
        for (int i = 0; i < 48; i++) {
            x.poke(i, 9999);
        }
        e.is(479952, x.count(4));
        e.is(59994, x.count(3));
        x.text();
        e.is(0, x.count(1));
    }

    private static void countBad(Edges e) {
        e.promise(32, "BAD.");
        for (int wrong : new int[] {-1, 5, NONE, Edges.LEAST, Edges.GREATEST}) {
            e.refused(BAD, x -> x.count(wrong));
        }
    }
}
