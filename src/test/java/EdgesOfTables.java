/** ROWS, and promises 6 to 13: rule, routine, op, landing, call, whose, row, ruleOf. */
final class EdgesOfTables {
    private static final int BAD = Edges.BAD, NONE = Edges.NONE;
    private static final int A = Edges.A, B = Edges.B, C = Edges.C, D = Edges.D, S = Edges.S, P = Edges.P;

    static void run(Edges e) {
        rules(e);
        rulesOfWalks(e);
        ruleOfAddresses(e);
        routines(e);
        routinesBad(e);
        ops(e);
        opsBad(e);
        landings(e);
        landingsBad(e);
        calls(e);
        callsBad(e);
        whose(e);
        whoseNone(e);
        rowHas(e);
        rowAtFrom(e);
        rowByGo(e);
        rowByOps(e);
        rowLaidAside(e);
        rowTakenBack(e);
        row(e);
        rowRefused(e);
        ruleOf(e);
        ruleOfRefused(e);
    }

    private static void rules(Edges e) {
        e.promise(6, "How many: 0 ROUTINES, 1 OPS, 2 LANDINGS, 3 CALLS,");
        FrameWalks x = new FrameWalks();
        e.all(0, x.rule(0), x.rule(1), x.rule(2), x.rule(3));
        x = Checks.telling("fun 1 1;mark;mark;land 1 1 1 1;land 1 1 1 1;land 1 1 1 1;call 1 1;call 1 1;call 1 1;call 1 1;");
        for (int what = 0; what < 4; what++) {
            e.is(what + 1, x.rule(what));
        }
    }

    private static void rulesOfWalks(Edges e) {
        e.promise(6, "4 FRAMES of the latest WALK (NONE: there was none), 5 by what it ENDED (NONE), 6 FRAMES of it that came by"
            + " GUESSES (NONE),");
        FrameWalks x = Edges.at("fun 10 19;fun 30 39;off 0;", 35, 0, 36, 12, 0);
        e.all(NONE, x.rule(4), x.rule(5), x.rule(6));
        x.walk(2);
        e.all(NONE, x.rule(4), x.rule(5), x.rule(6));
        x.walk(0);
        e.is(1, x.rule(4));
        e.is(3, x.rule(5));
        e.is(0, x.rule(6));
        x.walk(1);
        e.is(4, x.rule(4));
        e.is(0, x.rule(5));
        e.is(2, x.rule(6));
        x.walk(-1);
        e.is(4, x.rule(4));
        e.is(2, x.rule(6));
        x.put(P, 0);
        x.walk(1);
        e.is(1, x.rule(4));
        e.is(0, x.rule(6));
        x.keep(0);
        x.back(0);
        e.all(NONE, x.rule(4), x.rule(5), x.rule(6));
        x.walk(0);
        x.text();
        e.all(NONE, x.rule(4), x.rule(5), x.rule(6));
    }

    private static void ruleOfAddresses(Edges e) {
        e.promise(6, "7 ADDRESSES that are in a ROUTINE. BAD.");
        e.is(0, new FrameWalks().rule(7));
        e.is(1, Checks.telling("fun 0 0;").rule(7));
        e.is(2, Checks.telling("fun 0 0;sig 999 999;").rule(7));
        FrameWalks whole = Checks.telling("sig 500 999;fun 0 499;");
        e.is(1000, whole.rule(7));
        whole.move(0, 1, 500);
        e.is(501, whole.rule(7));
        for (int what : new int[] {-1, 8, Edges.LEAST, Edges.GREATEST}) {
            e.refused(BAD, x -> x.rule(what));
        }
    }

    private static void routines(Edges e) {
        e.promise(7, "Of a ROUTINE: 0 FROM, 1 TO, 2 whether it is a SIGNAL (1, 0), 3 how many OPS, 4 how many LANDINGS it has,"
            + " 5 which it is by FROM (0: it has the least).");
        FrameWalks x = Checks.telling("fun 5 6;sig 999 999;go 1;land 1 1 1 1;land 1 1 1 1;fun 0 0;off 1;off 1;off 1;fun 1 4;");
        int[][] due = {{5, 6, 0, 0, 0, 2}, {999, 999, 1, 1, 2, 3}, {0, 0, 0, 3, 0, 0}, {1, 4, 0, 0, 0, 1}};
        for (int r = 0; r < due.length; r++) {
            for (int what = 0; what < 6; what++) {
                e.is(due[r][what], x.routine(r, what));
            }
        }
        x.move(1, 0, 7);
        x.move(1, 1, 7);
        e.is(3, x.routine(1, 5));
        FrameWalks one = Checks.telling("fun 1 1;" + "mark;".repeat(40) + "land 1 1 1 1;".repeat(5));
        e.is(40, one.routine(0, 3));
        e.is(5, one.routine(0, 4));
        e.is(0, one.routine(0, 5));
        FrameWalks eight = Checks.telling("fun 8 8;fun 7 7;fun 6 6;fun 5 5;fun 4 4;fun 3 3;fun 2 2;fun 1 1;");
        for (int r = 0; r < 8; r++) {
            e.is(7 - r, eight.routine(r, 5));
        }
    }

    private static void routinesBad(Edges e) {
        e.promise(7, "BAD.");
        for (int wrong : new int[] {-1, 2, 8, NONE, Edges.LEAST, Edges.GREATEST}) {
            e.refused(BAD, x -> x.routine(wrong, 0));
        }
        for (int wrong : new int[] {-1, 6, Edges.LEAST, Edges.GREATEST}) {
            e.refused(BAD, x -> x.routine(0, wrong));
        }
        FrameWalks eight = Checks.telling("fun 8 8;fun 7 7;fun 6 6;fun 5 5;fun 4 4;fun 3 3;fun 2 2;fun 1 1;");
        e.is(1, eight.routine(7, 0));
        e.is(BAD, eight.routine(8, 0));
        e.is(BAD, new FrameWalks().routine(0, 0));
    }

    private static void ops(Edges e) {
        e.promise(8, "Of an OP: 0 its KIND (0 go, 1 base, 2 off, 3 save, 4 keep, 5 in, 6 mark, 7 reset), 1 its REGISTER (NONE),"
            + " 2 its N, or the REGISTER Q (NONE), 3 its ROUTINE.");
        FrameWalks x = Checks.telling("fun 1 1;go 0;base s 99;off 99;save p 0;keep d;fun 2 2;in a p;mark;reset;in p a;");
        int[][] due = {{0, NONE, 0, 0}, {1, S, 99, 0}, {2, NONE, 99, 0}, {3, P, 0, 0}, {4, D, NONE, 0}, {5, A, P, 1},
            {6, NONE, NONE, 1}, {7, NONE, NONE, 1}, {5, P, A, 1}};
        for (int i = 0; i < due.length; i++) {
            for (int what = 0; what < 4; what++) {
                e.is(due[i][what], x.op(i, what));
            }
        }
    }

    private static void opsBad(Edges e) {
        e.promise(8, "BAD.");
        for (int wrong : new int[] {-1, 4, 40, NONE, Edges.LEAST, Edges.GREATEST}) {
            e.refused(BAD, x -> x.op(wrong, 0));
            e.refused(BAD, x -> x.op(0, wrong));
        }
        FrameWalks x = Checks.telling("fun 1 1;" + "go 1;".repeat(40));
        e.is(0, x.op(39, 0));
        e.is(BAD, x.op(40, 0));
        e.is(BAD, new FrameWalks().op(0, 0));
    }

    private static void landings(Edges e) {
        e.promise(9, "Of a LANDING: 0 from, 1 to, 2 KIND, 3 where, 4 its ROUTINE.");
        FrameWalks x = Checks.telling("fun 1 1;land 0 999 0 999;land 999 999 10 0;fun 2 2;land 7 8 9 6;");
        int[][] due = {{0, 999, 0, 999, 0}, {999, 999, 10, 0, 0}, {7, 8, 9, 6, 1}};
        for (int i = 0; i < due.length; i++) {
            for (int what = 0; what < 5; what++) {
                e.is(due[i][what], x.landing(i, what));
            }
        }
    }

    private static void landingsBad(Edges e) {
        e.promise(9, "BAD.");
        for (int wrong : new int[] {-1, 2, 16, NONE, Edges.LEAST, Edges.GREATEST}) {
            e.refused(BAD, x -> x.landing(wrong, 0));
        }
        for (int wrong : new int[] {-1, 5, Edges.LEAST, Edges.GREATEST}) {
            e.refused(BAD, x -> x.landing(0, wrong));
        }
        FrameWalks x = Checks.telling("fun 1 1;" + "land 1 1 1 1;".repeat(16));
        e.is(1, x.landing(15, 0));
        e.is(BAD, x.landing(16, 0));
        e.is(BAD, new FrameWalks().landing(0, 0));
    }

    private static void calls(Edges e) {
        e.promise(10, "Of the i-th CALL by the ADDRESS at which it is, of several by order: 0 at, 1 to, 2 which one it is.");
        FrameWalks x = Checks.telling("call 5 1;call 999 2;call 5 0;call 0 4;call 5 999;call 4 9;");
        int[][] due = {{0, 4, 3}, {4, 9, 5}, {5, 1, 0}, {5, 0, 2}, {5, 999, 4}, {999, 2, 1}};
        for (int i = 0; i < due.length; i++) {
            for (int what = 0; what < 3; what++) {
                e.is(due[i][what], x.call(i, what));
            }
        }
        FrameWalks equal = Checks.telling("call 7 7;".repeat(16));
        FrameWalks falling = Checks.telling("call 9 0;call 8 0;call 7 0;call 6 0;call 5 0;call 4 0;call 3 0;call 2 0;");
        for (int i = 0; i < 16; i++) {
            e.is(i, equal.call(i, 2));
            e.is(i < 8 ? 7 - i : BAD, falling.call(i, 2));
        }
    }

    private static void callsBad(Edges e) {
        e.promise(10, "BAD.");
        for (int wrong : new int[] {-1, 1, 16, NONE, Edges.LEAST, Edges.GREATEST}) {
            e.refused(BAD, x -> x.call(wrong, 0));
        }
        for (int wrong : new int[] {-1, 3, Edges.LEAST, Edges.GREATEST}) {
            e.refused(BAD, x -> x.call(0, wrong));
        }
        FrameWalks x = Checks.telling("call 1 2;".repeat(16));
        e.is(1, x.call(15, 0));
        e.is(BAD, x.call(16, 0));
        e.is(BAD, new FrameWalks().call(0, 0));
    }

    private static void whose(Edges e) {
        e.promise(11, "The ROUTINE that has an ADDRESS.");
        FrameWalks x = Checks.telling("fun 10 19;sig 0 0;fun 999 999;fun 20 20;");
        int[][] due = {{0, 1}, {1, NONE}, {9, NONE}, {10, 0}, {19, 0}, {20, 3}, {21, NONE}, {998, NONE}, {999, 2}};
        for (int[] one : due) {
            e.is(one[1], x.whose(one[0]));
        }
        x.move(0, 0, 9);
        x.move(0, 1, 18);
        e.is(0, x.whose(9));
        e.is(NONE, x.whose(19));
    }

    private static void whoseNone(Edges e) {
        e.promise(11, "NONE: none has.");
        for (int address : new int[] {9, 20, 29, 39, -1, NONE, -5, 1000, Edges.LEAST, Edges.GREATEST}) {
            e.refused(NONE, x -> x.whose(address));
        }
        FrameWalks whole = Checks.telling("fun 0 999;");
        e.is(NONE, whole.whose(-1));
        e.is(0, whole.whose(0));
        e.is(0, whole.whose(999));
        e.is(NONE, whole.whose(1000));
    }

    private static void dueRow(Edges e, FrameWalks x, int address, int base, int off, int aside) {
        e.is(base, x.row(address, 0));
        e.is(off, x.row(address, 1));
        e.is(aside, x.row(address, 2));
    }

    private static void dueRule(Edges e, FrameWalks x, int address, int v, int which, int number) {
        e.is(which, x.ruleOf(address, v, 0));
        e.is(number, x.ruleOf(address, v, 1));
    }

    private static void rowHas(Edges e) {
        e.terms("ROW of a ROUTINE at an ADDRESS of it: BASE (a REGISTER but p) and OFF; of each REGISTER but s a RULE: same (0),"
            + " saved (1) and how many, in (2) and a REGISTER.");
        for (int v = 0; v < 5; v++) {
            FrameWalks x = Checks.telling("fun 5 5;base " + "abcds".charAt(v) + " 99;");
            e.is(v, x.row(5, 0));
            e.is(99, x.row(5, 1));
        }
        for (int v = 0; v < 6; v++) {
            FrameWalks x = Checks.telling("fun 5 5;in a " + "abcdsp".charAt(v) + ";");
            dueRule(e, x, 5, A, 2, v);
        }
        FrameWalks x = Checks.telling("fun 5 5;save a 0;save b 99;in c c;keep p;");
        dueRule(e, x, 5, A, 1, 0);
        dueRule(e, x, 5, B, 1, 99);
        dueRule(e, x, 5, C, 2, C);
        dueRule(e, x, 5, D, 0, NONE);
        dueRule(e, x, 5, P, 0, NONE);
        e.is(BAD, x.ruleOf(5, S, 0));
    }

    private static void dueAsAtFrom(Edges e, FrameWalks x, int address) {
        dueRow(e, x, address, S, 1, 0);
        for (int v = A; v <= D; v++) {
            dueRule(e, x, address, v, 0, NONE);
        }
        dueRule(e, x, address, P, 1, 1);
    }

    private static void rowAtFrom(Edges e) {
        e.terms("At FROM: BASE s, OFF 1; p saved 1, the others same.");
        FrameWalks x = Checks.telling("fun 10 12;sig 0 0;fun 999 999;");
        for (int address : new int[] {10, 11, 12, 0, 999}) {
            dueAsAtFrom(e, x, address);
        }
    }

    private static void rowByGo(Edges e) {
        e.terms("Then its OPS by order, beginning at FROM: go N: N further; is that above the ADDRESS, it ends there.");
        FrameWalks x = Checks.telling("fun 9 9;off 50;fun 10 300;off 2;go 1;off 3;go 0;off 4;go 99;off 5;go 99;off 6;go 92;off 7;"
            + "fun 400 409;go 9;off 8;go 1;off 9;go 0;off 10;fun 500 509;go 10;off 11;");
        int[][] due = {{10, 2}, {11, 4}, {109, 4}, {110, 5}, {208, 5}, {209, 6}, {300, 6}, {400, 1}, {408, 1}, {409, 8}, {500, 1},
            {509, 1}, {9, 50}};
        for (int[] one : due) {
            e.is(one[1], x.row(one[0], 1));
        }
        FrameWalks to = Checks.telling("fun 0 999;" + "go 99;".repeat(10) + "go 9;off 77;");
        e.is(1, to.row(998, 1));
        e.is(77, to.row(999, 1));
        FrameWalks ended = Checks.telling("fun 0 9;go 5;go 0;off 3;keep p;mark;");
        dueAsAtFrom(e, ended, 4);
        dueRow(e, ended, 5, S, 3, 1);
        to.move(0, 0, 1);
        e.is(1, to.row(999, 1));
    }

    private static void rowByOps(Edges e) {
        e.terms("base R N: BASE, OFF. off N: OFF. save R N: saved, N. keep R: same. in R Q: in Q.");
        FrameWalks x = Checks.telling("fun 0 9;base a 0;go 1;off 99;go 1;base s 5;go 1;save a 4;save p 0;go 1;in a p;in d s;go 1;"
            + "keep a;keep p;go 1;save d 99;keep b;");
        dueRow(e, x, 0, A, 0, 0);
        dueRow(e, x, 1, A, 99, 0);
        dueRow(e, x, 2, S, 5, 0);
        dueRule(e, x, 2, P, 1, 1);
        dueRule(e, x, 3, A, 1, 4);
        dueRule(e, x, 3, P, 1, 0);
        dueRule(e, x, 4, A, 2, P);
        dueRule(e, x, 4, D, 2, S);
        dueRule(e, x, 4, P, 1, 0);
        dueRule(e, x, 5, A, 0, NONE);
        dueRule(e, x, 5, P, 0, NONE);
        dueRule(e, x, 5, D, 2, S);
        dueRule(e, x, 6, D, 1, 99);
        dueRule(e, x, 6, B, 0, NONE);
        dueRow(e, x, 6, S, 5, 0);
    }

    private static void rowLaidAside(Edges e) {
        e.terms("mark: all of the ROW is laid aside (3 at most, one above another; a 4th is not).");
        FrameWalks x = Checks.telling("fun 0 9;off 10;mark;go 1;off 11;mark;go 1;off 12;mark;go 1;off 13;mark;go 1;off 14;reset;"
            + "go 1;reset;go 1;reset;");
        dueRow(e, x, 0, S, 10, 1);
        dueRow(e, x, 1, S, 11, 2);
        dueRow(e, x, 2, S, 12, 3);
        dueRow(e, x, 3, S, 13, 3);
        dueRow(e, x, 4, S, 12, 2);
        dueRow(e, x, 5, S, 11, 1);
        dueRow(e, x, 6, S, 10, 0);
        FrameWalks all = Checks.telling("fun 0 9;base b 7;save a 3;in c d;save d 99;keep p;mark;go 1;base s 1;keep a;save b 5;"
            + "keep c;in d a;save p 2;go 1;reset;");
        for (int address : new int[] {0, 2}) {
            dueRow(e, all, address, B, 7, address == 0 ? 1 : 0);
            dueRule(e, all, address, A, 1, 3);
            dueRule(e, all, address, B, 0, NONE);
            dueRule(e, all, address, C, 2, D);
            dueRule(e, all, address, D, 1, 99);
            dueRule(e, all, address, P, 0, NONE);
        }
        dueRow(e, all, 1, S, 1, 1);
        dueRule(e, all, 1, D, 2, A);
    }

    private static void rowTakenBack(Edges e) {
        e.terms("reset: it is what was laid aside last, which is so no more (none is: as it is at FROM).");
        FrameWalks none = Checks.telling("fun 0 9;base a 9;save b 2;in c d;keep p;reset;go 1;off 5;keep p;reset;go 1;off 6;mark;"
            + "off 7;reset;go 1;reset;");
        dueAsAtFrom(e, none, 0);
        dueAsAtFrom(e, none, 1);
        dueRow(e, none, 2, S, 6, 0);
        dueAsAtFrom(e, none, 3);
        FrameWalks again = Checks.telling("fun 0 9;off 2;mark;off 3;mark;off 4;mark;off 5;reset;off 6;mark;off 7;go 1;reset;go 1;"
            + "reset;go 1;reset;go 1;reset;");
        dueRow(e, again, 0, S, 7, 3);
        dueRow(e, again, 1, S, 6, 2);
        dueRow(e, again, 2, S, 3, 1);
        dueRow(e, again, 3, S, 2, 0);
        dueRow(e, again, 4, S, 1, 0);
        FrameWalks other = Checks.telling("fun 0 0;off 9;mark;fun 1 1;reset;");
        dueAsAtFrom(e, other, 1);
    }

    private static void row(Edges e) {
        e.promise(12, "Of the ROW at an ADDRESS: 0 BASE, 1 OFF, 2 how many are laid aside.");
        FrameWalks x = Checks.telling("fun 10 12;base d 0;mark;mark;go 2;base a 99;mark;mark;");
        dueRow(e, x, 10, D, 0, 2);
        dueRow(e, x, 11, D, 0, 2);
        dueRow(e, x, 12, A, 99, 3);
        x.alter(2, 1);
        dueRow(e, x, 10, D, 0, 2);
    }

    private static void rowRefused(Edges e) {
        e.promise(12, "BAD; NONE: no ROUTINE has it.");
        for (int wrong : new int[] {-1, 3, Edges.LEAST, Edges.GREATEST}) {
            e.refused(BAD, x -> x.row(10, wrong));
            e.refused(BAD, x -> x.row(9, wrong));
        }
        for (int address : new int[] {9, 20, 29, 39, -1, NONE, -5, 1000, Edges.LEAST, Edges.GREATEST}) {
            for (int what = 0; what < 3; what++) {
                int asked = what;
                e.refused(NONE, x -> x.row(address, asked));
            }
        }
        FrameWalks x = Checks.telling("fun 10 19;");
        e.is(NONE, x.row(9, 0));
        e.is(S, x.row(10, 0));
        e.is(S, x.row(19, 0));
        e.is(NONE, x.row(20, 0));
    }

    private static void ruleOf(Edges e) {
        e.promise(13, "Of the RULE of a REGISTER but s in the ROW at an ADDRESS: 0 which, 1 how many, the REGISTER Q"
            + " (NONE: same).");
        FrameWalks x = Checks.telling("fun 10 12;save a 0;in b a;in c p;go 2;save d 99;keep a;");
        dueRule(e, x, 10, A, 1, 0);
        dueRule(e, x, 11, B, 2, A);
        dueRule(e, x, 11, C, 2, P);
        dueRule(e, x, 11, D, 0, NONE);
        dueRule(e, x, 11, P, 1, 1);
        dueRule(e, x, 12, A, 0, NONE);
        dueRule(e, x, 12, D, 1, 99);
    }

    private static void ruleOfRefused(Edges e) {
        e.promise(13, "BAD; NONE: no ROUTINE has it.");
        for (int wrong : new int[] {-1, S, 6, NONE, Edges.LEAST, Edges.GREATEST}) {
            e.refused(BAD, x -> x.ruleOf(10, wrong, 0));
            e.refused(BAD, x -> x.ruleOf(9, wrong, 0));
        }
        for (int wrong : new int[] {-1, 2, Edges.LEAST, Edges.GREATEST}) {
            e.refused(BAD, x -> x.ruleOf(10, 0, wrong));
            e.refused(BAD, x -> x.ruleOf(9, 0, wrong));
        }
        for (int address : new int[] {9, 20, 29, 39, -1, NONE, -5, 1000, Edges.LEAST, Edges.GREATEST}) {
            e.refused(NONE, x -> x.ruleOf(address, P, 0));
            e.refused(NONE, x -> x.ruleOf(address, P, 1));
        }
        FrameWalks x = Checks.telling("fun 10 19;");
        e.is(1, x.ruleOf(10, P, 0));
        e.is(1, x.ruleOf(19, P, 0));
    }
}
