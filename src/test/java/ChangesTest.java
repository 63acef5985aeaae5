/** Promises 24 and 25: move, alter. */
public final class ChangesTest {
    private static final Checks checks = new Checks();

    public static void main(String[] args) {
        move();
        moveRefused();
        moveTakesRowsAlong();
        alter();
        alterRefused();
        checks.close("ChangesTest");
    }

    private static void move() {
        FrameWalks x = Checks.telling("fun 10 19;fun 30 39;fun 20 25;");
        checks.due("from", x.move(1, 0, 26), 30);
        checks.due("from is", x.routine(1, 0), 26);
        checks.due("to", x.move(1, 1, 999), 39);
        checks.due("to is", x.routine(1, 1), 999);
        checks.due("from of the least", x.move(0, 0, 0), 10);
        checks.due("from as it is", x.move(0, 0, 0), 0);
        checks.due("to at from", x.move(0, 1, 0), 19);
        checks.due("whose", x.whose(1), Checks.NONE);
        checks.due("whose", x.whose(999), 1);
        checks.due("addresses", x.rule(7), 1 + 974 + 6);
        checks.due("third by from", x.routine(1, 5), 2);
    }

    private static void moveRefused() {
        FrameWalks x = Checks.telling("fun 10 19;fun 30 39;");
        checks.dueBad("from above to", x.move(0, 0, 20));
        checks.dueBad("to below from", x.move(1, 1, 29));
        checks.dueBad("from above to, in another", x.move(0, 0, 35));
        checks.due("to into another", x.move(0, 1, 30), Checks.STATE);
        checks.due("to behind another", x.move(0, 1, 50), Checks.STATE);
        checks.due("from into another", x.move(1, 0, 19), Checks.STATE);
        checks.due("from ahead of another", x.move(1, 0, 0), Checks.STATE);
        checks.dueBad("address 1000", x.move(1, 1, 1000));
        checks.dueBad("address -1", x.move(0, 0, -1));
        checks.dueBad("what 2", x.move(0, 2, 15));
        checks.dueBad("what -1", x.move(0, -1, 15));
        checks.dueBad("routine 2", x.move(2, 0, 50));
        checks.dueBad("routine -1", x.move(-1, 0, 50));
        checks.due("from stays", x.routine(0, 0), 10);
        checks.due("to stays", x.routine(0, 1), 19);
        checks.due("from of 1 stays", x.routine(1, 0), 30);
        checks.due("to of 1 stays", x.routine(1, 1), 39);
    }

    private static void moveTakesRowsAlong() {
        FrameWalks x = Checks.telling("fun 10 19;go 5;off 7;");
        checks.due("off at 14", x.row(14, 1), 1);
        checks.due("off at 15", x.row(15, 1), 7);
        x.move(0, 0, 8);
        checks.due("off at 12", x.row(12, 1), 1);
        checks.due("off at 13", x.row(13, 1), 7);
    }

    private static void alter() {
        FrameWalks x = Checks.telling("fun 10 19;base a 1;go 2;off 3;save b 4;in c d;");
        checks.due("base", x.alter(0, 99), 1);
        checks.due("base is", x.op(0, 2), 99);
        checks.due("register of base stays", x.op(0, 1), Checks.A);
        checks.due("off at 11", x.row(11, 1), 99);
        checks.due("go", x.alter(1, 0), 2);
        checks.due("go is", x.op(1, 2), 0);
        checks.due("off at 10", x.row(10, 1), 3);
        checks.due("off", x.alter(2, 50), 3);
        checks.due("off at 10 is", x.row(10, 1), 50);
        checks.due("save", x.alter(3, 0), 4);
        checks.due("saved", x.ruleOf(10, Checks.B, 1), 0);
        checks.due("in", x.alter(4, Checks.P), Checks.D);
        checks.due("in is", x.ruleOf(10, Checks.C, 1), Checks.P);
        checks.due("in s", x.alter(4, Checks.S), Checks.P);
        checks.due("in a", x.alter(4, Checks.A), Checks.S);
    }

    private static void alterRefused() {
        FrameWalks x = Checks.telling("fun 10 19;base a 1;go 2;off 3;save b 4;in c d;keep d;mark;reset;");
        for (int i = 0; i < 4; i++) {
            checks.dueBad("100 of " + i, x.alter(i, 100));
            checks.dueBad("-1 of " + i, x.alter(i, -1));
            checks.due("n stays of " + i, x.op(i, 2), i + 1);
        }
        checks.dueBad("6 of in", x.alter(4, 6));
        checks.dueBad("-1 of in", x.alter(4, -1));
        checks.due("q stays", x.op(4, 2), Checks.D);
        for (int i = 5; i < 8; i++) {
            checks.dueBad("other op " + i, x.alter(i, 1));
            checks.due("other op stays " + i, x.op(i, 2), Checks.NONE);
        }
        checks.dueBad("op 8", x.alter(8, 1));
        checks.dueBad("op -1", x.alter(-1, 1));
    }
}
