/** Promises 6 to 13: rule, routine, op, landing, call, whose, row, ruleOf. */
public final class TablesTest {
    private static final Checks checks = new Checks();
    private static final int[] WRONG = {-1, -4, 1000, Integer.MAX_VALUE, Integer.MIN_VALUE};

    public static void main(String[] args) {
        rules();
        routines();
        ops();
        landings();
        calls();
        whose();
        rowAtFrom();
        rowByOps();
        rowLaidAside();
        ruleOf();
        wrongNumbers();
        checks.close("TablesTest");
    }

    private static FrameWalks sample() {
        return Checks.telling("call 9 3; sig 50 59; go 1; land 51 52 0 53; fun 0 0; fun 10 19; base b 7; save p 3;"
            + "keep c; in d s; mark; reset; off 8; land 11 12 10 13; land 1 2 3 4; call 9 1; call 2 999;");
    }

    private static void rules() {
        FrameWalks x = sample();
        checks.due("routines", x.rule(0), 3);
        checks.due("ops", x.rule(1), 8);
        checks.due("landings", x.rule(2), 3);
        checks.due("calls", x.rule(3), 3);
        checks.due("addresses", x.rule(7), 10 + 1 + 10);
        x.put(Checks.P, 12);
        x.walk(1);
        checks.due("frames", x.rule(4), 2);
        checks.due("ended", x.rule(5), 0);
        checks.due("guessed", x.rule(6), 0);
        checks.dueBad("rule -1", x.rule(-1));
        checks.dueBad("rule 8", x.rule(8));
        checks.due("all addresses", Checks.telling("fun 0 499;fun 500 999;").rule(7), 1000);
    }

    private static void routines() {
        FrameWalks x = sample();
        int[][] due = {{50, 59, 1, 1, 1, 2}, {0, 0, 0, 0, 0, 0}, {10, 19, 0, 7, 2, 1}};
        for (int r = 0; r < due.length; r++) {
            for (int what = 0; what < 6; what++) {
                checks.due("routine " + r + " " + what, x.routine(r, what), due[r][what]);
            }
            checks.dueBad("routine " + r + " -1", x.routine(r, -1));
            checks.dueBad("routine " + r + " 6", x.routine(r, 6));
        }
        checks.dueBad("routine 3", x.routine(3, 0));
        checks.dueBad("routine -1", x.routine(-1, 0));
    }

    private static void ops() {
        FrameWalks x = sample();
        int none = Checks.NONE;
        int[][] due = {
            {0, none, 1, 0}, {1, Checks.B, 7, 2}, {3, Checks.P, 3, 2}, {4, Checks.C, none, 2},
            {5, Checks.D, Checks.S, 2}, {6, none, none, 2}, {7, none, none, 2}, {2, none, 8, 2},
        };
        for (int i = 0; i < due.length; i++) {
            for (int what = 0; what < 4; what++) {
                checks.due("op " + i + " " + what, x.op(i, what), due[i][what]);
            }
            checks.dueBad("op " + i + " -1", x.op(i, -1));
            checks.dueBad("op " + i + " 4", x.op(i, 4));
        }
        checks.dueBad("op 8", x.op(8, 0));
        checks.dueBad("op -1", x.op(-1, 0));
    }

    private static void landings() {
        FrameWalks x = sample();
        int[][] due = {{51, 52, 0, 53, 0}, {11, 12, 10, 13, 2}, {1, 2, 3, 4, 2}};
        for (int i = 0; i < due.length; i++) {
            for (int what = 0; what < 5; what++) {
                checks.due("landing " + i + " " + what, x.landing(i, what), due[i][what]);
            }
            checks.dueBad("landing " + i + " -1", x.landing(i, -1));
            checks.dueBad("landing " + i + " 5", x.landing(i, 5));
        }
        checks.dueBad("landing 3", x.landing(3, 0));
        checks.dueBad("landing -1", x.landing(-1, 0));
    }

    private static void calls() {
        FrameWalks x = sample();
        int[][] due = {{2, 999, 2}, {9, 3, 0}, {9, 1, 1}};
        for (int i = 0; i < due.length; i++) {
            for (int what = 0; what < 3; what++) {
                checks.due("call " + i + " " + what, x.call(i, what), due[i][what]);
            }
            checks.dueBad("call " + i + " -1", x.call(i, -1));
            checks.dueBad("call " + i + " 3", x.call(i, 3));
        }
        checks.dueBad("call 3", x.call(3, 0));
        checks.dueBad("call -1", x.call(-1, 0));
    }

    private static void whose() {
        FrameWalks x = sample();
        int[][] due = {{0, 1}, {1, Checks.NONE}, {9, Checks.NONE}, {10, 2}, {19, 2}, {20, Checks.NONE}, {49, Checks.NONE},
            {50, 0}, {59, 0}, {60, Checks.NONE}};
        for (int[] one : due) {
            checks.due("whose " + one[0], x.whose(one[0]), one[1]);
        }
        for (int address : WRONG) {
            checks.due("whose " + address, x.whose(address), Checks.NONE);
        }
    }

    private static void dueRow(FrameWalks x, int address, int base, int off, int aside) {
        checks.due("base at " + address, x.row(address, 0), base);
        checks.due("off at " + address, x.row(address, 1), off);
        checks.due("aside at " + address, x.row(address, 2), aside);
    }

    private static void dueRule(FrameWalks x, int address, int v, int which, int number) {
        checks.due("rule of " + v + " at " + address, x.ruleOf(address, v, 0), which);
        checks.due("number of " + v + " at " + address, x.ruleOf(address, v, 1), number);
    }

    private static void rowAtFrom() {
        FrameWalks x = Checks.telling("fun 5 9;");
        for (int address = 5; address <= 9; address++) {
            dueRow(x, address, Checks.S, 1, 0);
            dueRule(x, address, Checks.P, 1, 1);
            for (int v = 0; v < 4; v++) {
                dueRule(x, address, v, 0, Checks.NONE);
            }
        }
        checks.due("row ahead", x.row(4, 0), Checks.NONE);
        checks.due("row behind", x.row(10, 0), Checks.NONE);
    }

    private static void rowByOps() {
        FrameWalks x = Checks.telling("fun 100 119; off 2; go 1; off 3; go 0; save a 2; go 3; base a 9; go 50; off 77;"
            + "fun 200 209; go 5; base b 6; fun 50 59; go 9; off 44;");
        dueRow(x, 100, Checks.S, 2, 0);
        dueRule(x, 100, Checks.A, 0, Checks.NONE);
        dueRow(x, 101, Checks.S, 3, 0);
        dueRule(x, 101, Checks.A, 1, 2);
        dueRow(x, 103, Checks.S, 3, 0);
        dueRow(x, 104, Checks.A, 9, 0);
        dueRow(x, 119, Checks.A, 9, 0);
        dueRow(x, 204, Checks.S, 1, 0);
        dueRow(x, 205, Checks.B, 6, 0);
        dueRow(x, 58, Checks.S, 1, 0);
        dueRow(x, 59, Checks.S, 44, 0);
    }

    private static void rowLaidAside() {
        FrameWalks x = Checks.telling("fun 0 99; off 2; save a 5; go 1; mark; base c 3; in a p; keep p; go 1; reset;"
            + "go 1; off 9; save b 4; reset;"
            + "go 1; off 11; mark; off 12; mark; off 13; mark; off 14; mark; go 1; off 15; reset; go 1; reset; go 1; reset;"
            + "go 1; reset;");
        dueRow(x, 0, Checks.S, 2, 0);
        dueRow(x, 1, Checks.C, 3, 1);
        dueRule(x, 1, Checks.A, 2, Checks.P);
        dueRule(x, 1, Checks.P, 0, Checks.NONE);
        dueRow(x, 2, Checks.S, 2, 0);
        dueRule(x, 2, Checks.A, 1, 5);
        dueRule(x, 2, Checks.P, 1, 1);
        dueRow(x, 3, Checks.S, 1, 0);
        dueRule(x, 3, Checks.A, 0, Checks.NONE);
        dueRule(x, 3, Checks.B, 0, Checks.NONE);
        dueRow(x, 4, Checks.S, 14, 3);
        dueRow(x, 5, Checks.S, 13, 2);
        dueRow(x, 6, Checks.S, 12, 1);
        dueRow(x, 7, Checks.S, 11, 0);
        dueRow(x, 8, Checks.S, 1, 0);
        dueRule(x, 8, Checks.P, 1, 1);
    }

    private static void ruleOf() {
        FrameWalks x = Checks.telling("fun 0 9; save a 0; save b 99; in c a; in d d; in p b; go 1; keep a; save c 7; in b s;"
            + "save p 6;");
        dueRule(x, 0, Checks.A, 1, 0);
        dueRule(x, 0, Checks.B, 1, 99);
        dueRule(x, 0, Checks.C, 2, Checks.A);
        dueRule(x, 0, Checks.D, 2, Checks.D);
        dueRule(x, 0, Checks.P, 2, Checks.B);
        dueRule(x, 1, Checks.A, 0, Checks.NONE);
        dueRule(x, 1, Checks.B, 2, Checks.S);
        dueRule(x, 1, Checks.C, 1, 7);
        dueRule(x, 1, Checks.D, 2, Checks.D);
        dueRule(x, 1, Checks.P, 1, 6);
    }

    private static void wrongNumbers() {
        FrameWalks x = Checks.telling("fun 0 9;");
        checks.dueBad("row what -1", x.row(0, -1));
        checks.dueBad("row what 3", x.row(0, 3));
        checks.dueBad("row what 3 of no routine", x.row(10, 3));
        checks.dueBad("ruleOf s", x.ruleOf(0, Checks.S, 0));
        checks.dueBad("ruleOf s of no routine", x.ruleOf(10, Checks.S, 0));
        checks.dueBad("ruleOf -1", x.ruleOf(0, -1, 0));
        checks.dueBad("ruleOf 6", x.ruleOf(0, 6, 0));
        checks.dueBad("ruleOf what -1", x.ruleOf(0, 0, -1));
        checks.dueBad("ruleOf what 2", x.ruleOf(0, 0, 2));
        checks.due("ruleOf no routine", x.ruleOf(10, 0, 0), Checks.NONE);
        for (int address : WRONG) {
            checks.due("row " + address, x.row(address, 0), Checks.NONE);
            checks.due("ruleOf " + address, x.ruleOf(address, 0, 0), Checks.NONE);
        }
    }
}
