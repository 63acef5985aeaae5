/** Promises 22 and 23: caught, cleaned. */
final class EdgesOfLandings {
    private static final int BAD = Edges.BAD, STATE = Edges.STATE, NONE = Edges.NONE;

    static void run(Edges e) {
        caughtByFirst(e);
        caughtByKind(e);
        caughtByAddress(e);
        caughtByRoutineThen(e);
        caughtRefused(e);
        cleanedOnTheWay(e);
        cleanedAtMost(e);
        cleanedRefused(e);
    }

    private static final String CAUGHT = "What is thrown with a KIND (1 to 9) is caught by the first FRAME of which the ROUTINE"
        + " (that it had then) has a LANDING that has the ADDRESS by which it was LOOKED up, and is of that KIND, or of 10 (any),"
        + " the first one: the FRAME (what 0), the LANDING (1).";

    private static FrameWalks walked(String text, int p, int... words) {
        FrameWalks x = Edges.at(text, p, 0, words);
        x.walk(0);
        return x;
    }

    private static void dueCaught(Edges e, FrameWalks x, int kind, int frame, int landing) {
        e.is(frame, x.caught(kind, 0));
        e.is(landing, x.caught(kind, 1));
    }

    private static void caughtByFirst(Edges e) {
        e.promise(22, CAUGHT);
        FrameWalks x = walked("fun 10 19;land 10 19 1 0;land 10 19 1 0;fun 20 29;land 20 29 2 0;land 20 29 1 0;", 25, 15, 15, 0);
        dueCaught(e, x, 1, 0, 3);
        dueCaught(e, x, 2, 0, 2);
        FrameWalks later = walked("fun 10 19;land 10 19 1 0;land 10 19 1 0;fun 20 29;land 20 29 2 0;", 25, 15, 15, 0);
        dueCaught(e, later, 1, 1, 0);
        FrameWalks last = Edges.at("fun 10 19;fun 30 39;land 30 39 1 0;", 15, 0);
        for (int i = 0; i < 19; i++) {
            last.poke(i, i == 18 ? 35 : 15);
        }
        e.is(20, last.walk(0));
        dueCaught(e, last, 1, 19, 0);
        FrameWalks guessed = Edges.at("fun 10 19;land 14 14 1 0;", 500, 0, 15, 0);
        guessed.walk(1);
        dueCaught(e, guessed, 1, 1, 0);
        guessed.walk(0);
        dueCaught(e, guessed, 1, NONE, NONE);
    }

    private static void caughtByKind(Edges e) {
        e.promise(22, CAUGHT);
        FrameWalks x = walked("fun 10 19;land 10 19 0 0;land 10 19 9 0;land 10 19 1 0;land 10 19 10 0;land 10 19 5 0;", 15, 0);
        int[] due = {2, 3, 3, 3, 3, 3, 3, 3, 1};
        for (int kind = 1; kind <= 9; kind++) {
            dueCaught(e, x, kind, 0, due[kind - 1]);
        }
        FrameWalks only0 = walked("fun 10 19;land 10 19 0 0;", 15, 0);
        FrameWalks only4 = walked("fun 10 19;land 10 19 4 0;", 15, 0);
        for (int kind = 1; kind <= 9; kind++) {
            dueCaught(e, only0, kind, NONE, NONE);
            dueCaught(e, only4, kind, kind == 4 ? 0 : NONE, kind == 4 ? 0 : NONE);
        }
        FrameWalks anyFirst = walked("fun 10 19;land 10 19 10 0;land 10 19 4 0;", 15, 0);
        dueCaught(e, anyFirst, 4, 0, 0);
    }

    private static void caughtByAddress(Edges e) {
        e.promise(22, CAUGHT);
        int[][] due = {{12, NONE}, {13, 0}, {14, 0}, {15, 0}, {16, NONE}};
        for (int[] one : due) {
            dueCaught(e, walked("fun 10 19;land 13 15 1 0;", one[0], 0), 1, one[1], one[1]);
            FrameWalks caller = walked("fun 10 19;land 13 15 1 0;fun 20 29;", 25, one[0] + 1, 0);
            dueCaught(e, caller, 1, one[1] == NONE ? NONE : 1, one[1]);
            FrameWalks behindSignal = walked("fun 10 19;land 13 15 1 0;sig 20 29;", 25, one[0], 0);
            dueCaught(e, behindSignal, 1, one[1] == NONE ? NONE : 1, one[1]);
        }
        dueCaught(e, walked("fun 10 19;land 0 999 1 0;", 10, 0), 1, 0, 0);
        dueCaught(e, walked("fun 10 19;fun 20 29;land 0 999 1 0;", 15, 0), 1, NONE, NONE);
        dueCaught(e, walked("fun 10 19;land 0 999 1 0;", 20, 0), 1, NONE, NONE);
    }

    private static void caughtByRoutineThen(Edges e) {
        e.promise(22, CAUGHT);
        FrameWalks x = walked("fun 10 19;land 15 15 1 0;fun 20 29;land 0 999 2 0;", 15, 25, 0);
        x.move(0, 1, 14);
        x.move(1, 0, 15);
        x.put(Edges.P, 500);
        x.poke(0, 0);
        dueCaught(e, x, 1, 0, 0);
        dueCaught(e, x, 2, 1, 1);
        x.walk(0);
        dueCaught(e, x, 1, NONE, NONE);
        FrameWalks again = walked("fun 10 19;land 15 15 1 0;", 15, 0);
        again.put(Edges.P, 16);
        dueCaught(e, again, 1, 0, 0);
        again.walk(0);
        dueCaught(e, again, 1, NONE, NONE);
    }

    private static void caughtRefused(Edges e) {
        e.promise(22, "BAD; STATE: there was no WALK; NONE: none catches.");
        for (int wrong : new int[] {-1, 0, 10, 11, NONE, Edges.LEAST, Edges.GREATEST}) {
            e.refused(BAD, x -> x.caught(wrong, 0));
            e.refused(BAD, FrameWalks::new, x -> x.caught(wrong, 0));
        }
        for (int wrong : new int[] {-1, 2, NONE, Edges.LEAST, Edges.GREATEST}) {
            e.refused(BAD, x -> x.caught(1, wrong));
            e.refused(BAD, x -> x.caught(2, wrong));
            e.refused(BAD, FrameWalks::new, x -> x.caught(1, wrong));
        }
        e.refused(STATE, FrameWalks::new, x -> x.caught(1, 0));
        e.refused(STATE, FrameWalks::new, x -> x.caught(9, 1));
        for (int kind = 2; kind <= 9; kind++) {
            int thrown = kind;
            e.refused(NONE, x -> x.caught(thrown, 0));
            e.refused(NONE, x -> x.caught(thrown, 1));
        }
        dueCaught(e, Edges.RICH.get(), 1, 0, 0);
        FrameWalks gone = Edges.RICH.get();
        gone.back(0);
        e.is(STATE, gone.caught(1, 0));
        gone.walk(0);
        e.is(0, gone.caught(1, 0));
        gone.text();
        e.is(STATE, gone.caught(1, 0));
    }

    private static void dueCleaned(Edges e, FrameWalks x, int kind, int... due) {
        for (int i = 0; i < due.length; i++) {
            e.is(due[i], x.cleaned(kind, i));
        }
        e.is(NONE, x.cleaned(kind, due.length));
    }

    private static final String CLEANED = "On the way to the FRAME that catches: LANDINGS of KIND 0 that have the ADDRESS by which"
        + " their FRAME was LOOKED up, of FRAMES ahead of that one by order, of each by order: the i-th (0 on): 100 times the"
        + " FRAME, and the LANDING.";

    private static void cleanedOnTheWay(Edges e) {
        e.promise(23, CLEANED);
        String text = "fun 10 19;land 15 16 0 0;land 17 17 0 0;land 14 14 0 0;land 16 19 0 0;land 16 16 5 0;fun 20 29;land 0 999 0 0;"
            + "fun 30 39;land 30 39 0 0;land 30 39 1 0;";
        dueCleaned(e, walked(text, 25, 15, 16, 17, 18, 35, 0), 1, 5, 102, 200, 300, 303, 401, 403);
        dueCleaned(e, walked(text, 25, 15, 16, 17, 18, 35, 0), 5, 5, 102, 200);
        dueCleaned(e, walked(text, 25, 15, 16, 17, 18, 0), 1);
        dueCleaned(e, walked(text, 35, 0), 1);
        dueCleaned(e, walked(text, 16, 35, 0), 1, 0, 3);
        FrameWalks then = walked(text, 25, 15, 35, 0);
        then.move(0, 0, 19);
        then.move(1, 0, 29);
        then.put(Edges.P, 0);
        dueCleaned(e, then, 1, 5, 102);
        FrameWalks guessed = Edges.at(text, 500, 0, 15, 35, 0);
        guessed.walk(1);
        dueCleaned(e, guessed, 1, 102);
    }

    private static void cleanedAtMost(Edges e) {
        e.promise(23, CLEANED);
        FrameWalks x = Edges.at("fun 10 19;" + "land 10 19 0 0;".repeat(15) + "fun 30 39;land 30 39 1 0;", 15, 0);
        for (int i = 0; i < 19; i++) {
            x.poke(i, i == 18 ? 35 : 15);
        }
        e.is(20, x.walk(0));
        e.is(19, x.caught(1, 0));
        e.is(15, x.caught(1, 1));
        e.is(0, x.cleaned(1, 0));
        e.is(14, x.cleaned(1, 14));
        e.is(100, x.cleaned(1, 15));
        e.is(1814, x.cleaned(1, 284));
        e.is(NONE, x.cleaned(1, 285));
    }

    private static FrameWalks withWay() {
        return walked("fun 10 19;land 10 19 0 0;fun 30 39;land 30 39 1 0;", 15, 35, 0);
    }

    private static void cleanedRefused(Edges e) {
        e.promise(23, "BAD: kind, i; STATE: there was no WALK; NONE: there are not so many, or none catches.");
        for (int wrong : new int[] {-1, 0, 10, 11, NONE, Edges.LEAST, Edges.GREATEST}) {
            e.refused(BAD, EdgesOfLandings::withWay, x -> x.cleaned(wrong, 0));
            e.refused(BAD, FrameWalks::new, x -> x.cleaned(wrong, 0));
        }
        for (int wrong : new int[] {-1, NONE, Edges.LEAST}) {
            e.refused(BAD, EdgesOfLandings::withWay, x -> x.cleaned(1, wrong));
            e.refused(BAD, EdgesOfLandings::withWay, x -> x.cleaned(2, wrong));
            e.refused(BAD, FrameWalks::new, x -> x.cleaned(1, wrong));
        }
        e.is(0, withWay().cleaned(1, 0));
        for (int i : new int[] {1, 2, Edges.GREATEST}) {
            e.refused(NONE, EdgesOfLandings::withWay, x -> x.cleaned(1, i));
        }
        for (int kind = 2; kind <= 9; kind++) {
            int thrown = kind;
            e.refused(NONE, EdgesOfLandings::withWay, x -> x.cleaned(thrown, 0));
            e.refused(STATE, FrameWalks::new, x -> x.cleaned(thrown, 0));
        }
        FrameWalks gone = withWay();
        gone.keep(0);
        e.is(0, gone.cleaned(1, 0));
        gone.back(0);
        e.is(STATE, gone.cleaned(1, 0));
        gone.walk(0);
        gone.text();
        e.is(STATE, gone.cleaned(1, 0));
    }
}
