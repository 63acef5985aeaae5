/** Promises 24 to 27: move, alter, keep, back. */
final class EdgesOfChanges {
    private static final int BAD = Edges.BAD, STATE = Edges.STATE, NONE = Edges.NONE;

    static void run(Edges e) {
        move(e);
        moveBad(e);
        moveState(e);
        alter(e);
        alterBad(e);
        keep(e);
        keepBad(e);
        back(e);
        backRefused(e);
    }

    private static FrameWalks three() {
        return Checks.telling("fun 10 19;sig 30 39;fun 50 59;");
    }

    private static void move(Edges e) {
        e.promise(24, "FROM, TO (what 0, 1) of a ROUTINE becomes an ADDRESS: what it was.");
        FrameWalks x = three();
        e.is(30, x.move(1, 0, 20));
        e.is(20, x.routine(1, 0));
        e.is(39, x.routine(1, 1));
        e.is(39, x.move(1, 1, 49));
        e.is(49, x.routine(1, 1));
        e.is(10, x.move(0, 0, 0));
        e.is(0, x.move(0, 0, 0));
        e.is(59, x.move(2, 1, 999));
        e.is(999, x.move(2, 1, 999));
        e.is(0, x.move(0, 0, 19));
        e.is(19, x.move(0, 0, 10));
        e.is(19, x.move(0, 1, 10));
        e.is(10, x.routine(0, 0));
        e.is(10, x.routine(0, 1));
        e.is(1, x.routine(1, 2));
        e.is(3, x.rule(0));
        e.is(1 + 30 + 950, x.rule(7));
    }

    private static void moveBad(Edges e) {
        e.promise(24, "BAD: also FROM would be above TO;");
        for (int wrong : new int[] {-1, 2, 8, NONE, Edges.LEAST, Edges.GREATEST}) {
            e.refused(BAD, x -> x.move(wrong, 0, 12));
            e.refused(BAD, x -> x.move(0, wrong, 12));
        }
        for (int wrong : new int[] {-1, 1000, NONE, Edges.LEAST, Edges.GREATEST}) {
            e.refused(BAD, x -> x.move(0, 0, wrong));
            e.refused(BAD, x -> x.move(1, 1, wrong));
        }
        e.refused(BAD, EdgesOfChanges::three, x -> x.move(1, 0, 40));
        e.refused(BAD, EdgesOfChanges::three, x -> x.move(1, 1, 29));
        e.refused(BAD, EdgesOfChanges::three, x -> x.move(1, 0, 50));
        e.refused(BAD, EdgesOfChanges::three, x -> x.move(1, 1, 19));
        e.refused(BAD, EdgesOfChanges::three, x -> x.move(1, 0, 999));
        e.refused(BAD, EdgesOfChanges::three, x -> x.move(1, 1, 0));
        e.is(30, three().move(1, 0, 39));
        e.is(39, three().move(1, 1, 30));
    }

    private static void moveState(Edges e) {
        e.promise(24, "STATE: two would have an ADDRESS both.");
        e.is(30, three().move(1, 0, 20));
        e.refused(STATE, EdgesOfChanges::three, x -> x.move(1, 0, 19));
        e.refused(STATE, EdgesOfChanges::three, x -> x.move(1, 0, 10));
        e.refused(STATE, EdgesOfChanges::three, x -> x.move(1, 0, 9));
        e.refused(STATE, EdgesOfChanges::three, x -> x.move(1, 0, 0));
        e.is(39, three().move(1, 1, 49));
        e.refused(STATE, EdgesOfChanges::three, x -> x.move(1, 1, 50));
        e.refused(STATE, EdgesOfChanges::three, x -> x.move(1, 1, 59));
        e.refused(STATE, EdgesOfChanges::three, x -> x.move(1, 1, 60));
        e.refused(STATE, EdgesOfChanges::three, x -> x.move(1, 1, 999));
        e.refused(STATE, EdgesOfChanges::three, x -> x.move(0, 1, 30));
        e.refused(STATE, EdgesOfChanges::three, x -> x.move(2, 0, 39));
    }

    private static final String OPS = "fun 0 9;go 1;base a 2;off 3;save b 4;in c d;keep d;mark;reset;";

    private static void alter(Edges e) {
        e.promise(25, "N of a go, base, off, save (0 to 99), Q of an in (a REGISTER) becomes n: what it was.");
        FrameWalks x = Checks.telling(OPS);
        for (int i = 0; i < 4; i++) {
            e.is(i + 1, x.alter(i, 99));
            e.is(99, x.op(i, 2));
            e.is(99, x.alter(i, 0));
            e.is(0, x.op(i, 2));
            e.is(i, x.op(i, 0));
        }
        e.is(3, x.alter(4, 0));
        for (int q = 0; q < 6; q++) {
            e.is(q == 0 ? 0 : q - 1, x.alter(4, q));
            e.is(q, x.op(4, 2));
        }
        e.is(Edges.C, x.op(4, 1));
        e.is(Edges.B, x.op(3, 1));
        FrameWalks row = Checks.telling("fun 0 9;go 5;off 7;in a b;");
        row.alter(0, 6);
        row.alter(1, 8);
        row.alter(2, Edges.P);
        e.is(1, row.row(5, 1));
        e.is(8, row.row(6, 1));
        e.is(Edges.P, row.ruleOf(6, Edges.A, 1));
    }

    private static void alterBad(Edges e) {
        e.promise(25, "BAD: also of other OPS.");
        for (int i = 0; i < 4; i++) {
            int which = i;
            for (int wrong : new int[] {-1, 100, NONE, Edges.LEAST, Edges.GREATEST}) {
                e.refused(BAD, EdgesOfChanges::altered, x -> x.alter(which, wrong));
            }
        }
        for (int wrong : new int[] {-1, 6, 99, NONE, Edges.LEAST, Edges.GREATEST}) {
            e.refused(BAD, EdgesOfChanges::altered, x -> x.alter(4, wrong));
        }
        for (int i = 5; i < 8; i++) {
            int which = i;
            for (int n : new int[] {0, 1, 5, 99, -1, NONE}) {
                e.refused(BAD, EdgesOfChanges::altered, x -> x.alter(which, n));
            }
        }
        for (int wrong : new int[] {-1, 8, 40, NONE, Edges.LEAST, Edges.GREATEST}) {
            e.refused(BAD, EdgesOfChanges::altered, x -> x.alter(wrong, 1));
        }
        e.is(BAD, new FrameWalks().alter(0, 1));
        FrameWalks most = Checks.telling("fun 1 1;" + "go 1;".repeat(40));
        e.is(1, most.alter(39, 2));
        e.is(BAD, most.alter(40, 2));
    }

    private static FrameWalks altered() {
        return Checks.telling(OPS);
    }

    private static void keep(Edges e) {
        e.promise(26, "IMAGE k (0, 1) is ROUTINES, OPS, LANDINGS, CALLS, REGISTERS, WORDS: whether there was one (1, 0).");
        FrameWalks x = Edges.RICH.get();
        e.is(0, x.keep(1));
        e.is(1, x.keep(1));
        e.is(1, x.keep(0));
        e.is(2, x.count(0));
        e.is(4, x.rule(4));
        FrameWalks all = Checks.telling("fun 10 19;go 3;land 1 2 3 4;call 5 6;sig 0 0;");
        for (int v = 0; v < 6; v++) {
            all.put(v, 100 + v);
        }
        for (int i = 0; i < 48; i++) {
            all.poke(i, 200 + i);
        }
        all.keep(1);
        all.move(0, 0, 11);
        all.alter(0, 9);
        for (int v = 0; v < 6; v++) {
            all.put(v, 0);
        }
        for (int i = 0; i < 48; i++) {
            all.poke(i, 0);
        }
        e.is(2, all.back(1));
        e.is(10, all.routine(0, 0));
        e.is(3, all.op(0, 2));
        e.is(4, all.landing(0, 3));
        e.is(6, all.call(0, 1));
        e.is(1, all.routine(1, 2));
        for (int v = 0; v < 6; v++) {
            e.is(100 + v, all.get(v));
        }
        for (int i = 0; i < 48; i++) {
            e.is(200 + i, all.peek(i));
        }
    }

    private static void keepBad(Edges e) {
        e.promise(26, "BAD.");
        for (int wrong : new int[] {-1, 2, NONE, Edges.LEAST, Edges.GREATEST}) {
            e.refused(BAD, x -> x.keep(wrong));
            e.refused(BAD, FrameWalks::new, x -> x.keep(wrong));
        }
    }

    private static void back(Edges e) {
        e.promise(27, "All is as IMAGE k (there was no WALK): ROUTINES.");
        FrameWalks x = Edges.RICH.get();
        x.keep(1);
        x.alter(0, 50);
        x.poke(0, 50);
        e.is(2, x.back(0));
        e.all(NONE, x.rule(4), x.rule(5), x.rule(6));
        e.is(BAD, x.frame(0, 0));
        e.is(STATE, x.caught(1, 0));
        e.is(0, x.get(Edges.A));
        e.is(0, x.peek(40));
        e.is(39, x.routine(1, 1));
        e.is(2, x.op(0, 2));
        e.is(2, x.back(1));
        e.is(41, x.get(Edges.A));
        e.is(42, x.peek(40));
        e.is(38, x.routine(1, 1));
        e.is(3, x.op(0, 2));
        e.is(0, x.peek(0));
        x.put(Edges.A, 1);
        e.is(2, x.back(1));
        e.is(41, x.get(Edges.A));
        e.is(2, x.count(0));
        e.is(14, x.count(1));
        e.is(3, x.count(2));
        e.is(1, x.fault());
        e.is(3, x.torn());
        FrameWalks empty = new FrameWalks();
        empty.keep(0);
        e.is(0, empty.back(0));
        FrameWalks most = Checks.telling("fun 8 8;fun 7 7;fun 6 6;fun 5 5;fun 4 4;fun 3 3;fun 2 2;fun 1 1;");
        most.keep(1);
        e.is(8, most.back(1));
    }

    private static FrameWalks walkedWithImage1() {
        FrameWalks x = Checks.telling("fun 10 19;");
        x.put(Edges.A, 7);
        x.keep(1);
        x.put(Edges.A, 8);
        x.walk(0);
        return x;
    }

    private static void backRefused(Edges e) {
        e.promise(27, "BAD; STATE: there is none.");
        for (int wrong : new int[] {-1, 2, NONE, Edges.LEAST, Edges.GREATEST}) {
            e.refused(BAD, x -> x.back(wrong));
            e.refused(BAD, FrameWalks::new, x -> x.back(wrong));
        }
        e.refused(STATE, FrameWalks::new, x -> x.back(0));
        e.refused(STATE, FrameWalks::new, x -> x.back(1));
        e.refused(STATE, x -> x.back(1));
        e.refused(STATE, EdgesOfChanges::walkedWithImage1, x -> x.back(0));
        FrameWalks gone = walkedWithImage1();
        gone.text();
        e.is(STATE, gone.back(1));
        FrameWalks stays = walkedWithImage1();
        Checks.tell(stays, "?");
        e.is(1, stays.back(1));
        e.is(7, stays.get(Edges.A));
    }
}
