/** Promises 22 and 23: caught, cleaned. */
public final class LandingsTest {
    private static final Checks checks = new Checks();

    public static void main(String[] args) {
        caught();
        cleaned();
        lookedUp();
        asItHadThen();
        wrongNumbers();
        checks.close("LandingsTest");
    }

    /** FRAMES: 0 at 15 of ROUTINE 0, 1 at 24 of ROUTINE 1, 2 at 17 of ROUTINE 0, 3 at 34 of ROUTINE 2, 4 at none. */
    private static FrameWalks walked() {
        FrameWalks x = Checks.telling("fun 10 19;land 15 15 0 1;land 17 17 0 2;land 16 17 4 3;"
            + "fun 20 29;land 20 29 0 4;land 24 24 0 5;land 25 29 0 6;land 20 23 3 7;land 24 24 2 8;"
            + "fun 30 39;land 30 39 9 9;land 30 39 10 10;land 30 39 5 11;land 30 39 0 12;");
        x.put(Checks.P, 15);
        Checks.pokeAll(x, 0, 25, 18, 35, 0);
        x.walk(0);
        return x;
    }

    private static void dueCaught(FrameWalks x, int kind, int frame, int landing) {
        checks.due("frame that catches " + kind, x.caught(kind, 0), frame);
        checks.due("landing that catches " + kind, x.caught(kind, 1), landing);
    }

    private static void caught() {
        FrameWalks x = walked();
        dueCaught(x, 1, 3, 9);
        dueCaught(x, 2, 1, 7);
        dueCaught(x, 3, 3, 9);
        dueCaught(x, 4, 2, 2);
        dueCaught(x, 5, 3, 9);
        dueCaught(x, 9, 3, 8);
        FrameWalks none = Checks.telling("fun 10 19;land 10 19 0 1;land 10 19 3 3;");
        none.put(Checks.P, 10);
        none.walk(0);
        dueCaught(none, 1, Checks.NONE, Checks.NONE);
        dueCaught(none, 3, 0, 1);
        none.put(Checks.P, 20);
        none.walk(0);
        dueCaught(none, 3, Checks.NONE, Checks.NONE);
    }

    private static void dueCleaned(FrameWalks x, int kind, int... due) {
        for (int i = 0; i < due.length; i++) {
            checks.due("cleaned " + i + " of " + kind, x.cleaned(kind, i), due[i]);
        }
        checks.due("no more of " + kind, x.cleaned(kind, due.length), Checks.NONE);
        checks.due("far more of " + kind, x.cleaned(kind, Integer.MAX_VALUE), Checks.NONE);
    }

    private static void cleaned() {
        FrameWalks x = walked();
        dueCleaned(x, 1, 0, 103, 104, 201);
        dueCleaned(x, 2, 0);
        dueCleaned(x, 4, 0, 103, 104);
        FrameWalks none = Checks.telling("fun 10 19;land 10 19 0 1;");
        none.put(Checks.P, 10);
        none.walk(0);
        dueCleaned(none, 1);
        FrameWalks first = Checks.telling("fun 10 19;land 10 19 0 1;land 10 19 1 1;");
        first.put(Checks.P, 10);
        first.walk(0);
        dueCleaned(first, 1);
    }

    private static void lookedUp() {
        // A LANDING of another ROUTINE, and one at p as it is, do not count in a FRAME looked up by 1 less.
        FrameWalks x = Checks.telling("fun 10 19;fun 20 29;land 15 15 1 0;land 25 25 1 0;land 24 24 1 0;land 26 99 1 0;");
        x.put(Checks.P, 15);
        x.poke(0, 25);
        x.walk(0);
        dueCaught(x, 1, 1, 2);
        FrameWalks zero = Checks.telling("fun 0 9;land 0 0 1 5;");
        zero.walk(0);
        dueCaught(zero, 1, 0, 0);
    }

    private static void asItHadThen() {
        FrameWalks x = walked();
        x.move(0, 1, 11);
        x.move(2, 0, 39);
        x.put(Checks.P, 999);
        dueCaught(x, 4, 2, 2);
        dueCaught(x, 1, 3, 9);
        dueCleaned(x, 1, 0, 103, 104, 201);
    }

    private static void wrongNumbers() {
        FrameWalks x = new FrameWalks();
        checks.due("caught ahead of a walk", x.caught(1, 0), Checks.STATE);
        checks.due("cleaned ahead of a walk", x.cleaned(1, 0), Checks.STATE);
        for (int round = 0; round < 2; round++) {
            checks.dueBad("caught 0", x.caught(0, 0));
            checks.dueBad("caught 10", x.caught(10, 0));
            checks.dueBad("caught -1", x.caught(-1, 0));
            checks.dueBad("caught what 2", x.caught(1, 2));
            checks.dueBad("caught what -1", x.caught(1, -1));
            checks.dueBad("cleaned 0", x.cleaned(0, 0));
            checks.dueBad("cleaned 10", x.cleaned(10, 0));
            checks.dueBad("cleaned i -1", x.cleaned(1, -1));
            x = walked();
        }
        x.text();
        checks.due("caught behind a text", x.caught(1, 0), Checks.STATE);
        checks.due("cleaned behind a text", x.cleaned(1, 0), Checks.STATE);
    }
}
