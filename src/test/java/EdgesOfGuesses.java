/** GUESSES, and promise 21: guess. */
final class EdgesOfGuesses {
    private static final int BAD = Edges.BAD, NONE = Edges.NONE;
    private static final int A = Edges.A, B = Edges.B, C = Edges.C, D = Edges.D, S = Edges.S, P = Edges.P;

    static void run(Edges e) {
        whenLookedFor(e);
        wordsLookedAt(e);
        numbersInRoutines(e);
        callsThere(e);
        callsThatLead(e);
        best(e);
        nextFrame(e);
        none(e);
        guess(e);
        guessBad(e);
        guessNone(e);
    }

    private static void dueWalk(Edges e, FrameWalks x, int frames, int ended, int guessed) {
        e.is(frames, x.walk(1));
        e.is(ended, x.rule(5));
        e.is(guessed, x.rule(6));
    }

    private static void whenLookedFor(Edges e) {
        e.terms("With GUESSES (by 1, 2, 3):");
        String text = "fun 10 19;off 0;fun 20 29;save a 99;fun 30 39;keep p;off 1;";
        FrameWalks by0 = Edges.at(text, 0, 0, 15, 0);
        dueWalk(e, by0, 1, 0, 0);
        FrameWalks by1 = Edges.at(text, 500, 0, 501, 36);
        dueWalk(e, by1, 20, 4, 1);
        e.is(2, by1.came(1, 2));
        FrameWalks by2 = Edges.at(text, 25, 0, 501, 36);
        e.is(1, by2.walk(0));
        e.is(2, by2.rule(5));
        dueWalk(e, by2, 20, 4, 1);
        FrameWalks by3 = Edges.at(text, 15, 0, 501, 36);
        e.is(1, by3.walk(0));
        e.is(3, by3.rule(5));
        dueWalk(e, by3, 20, 4, 1);
        FrameWalks by4 = Edges.at(text, 35, 0, 36, 36);
        e.is(20, by4.walk(0));
        e.is(4, by4.rule(5));
        dueWalk(e, by4, 20, 4, 0);
    }

    /** The WORD of the best GUESS from WORD s on, if one WORD alone has what may be a return. */
    private static int found(int s, int word) {
        FrameWalks x = Edges.at("fun 10 19;", 500, s);
        x.poke(word, 15);
        return x.walk(1) > 1 ? x.frame(1, S) - 1 : NONE;
    }

    private static void wordsLookedAt(Edges e) {
        e.terms("of the WORDS from s of that FRAME on, 16 at most, those that are there,");
        e.is(NONE, found(5, 4));
        e.is(5, found(5, 5));
        e.is(20, found(5, 20));
        e.is(NONE, found(5, 21));
        e.is(0, found(0, 0));
        e.is(15, found(0, 15));
        e.is(NONE, found(0, 16));
        e.is(NONE, found(31, 47));
        e.is(47, found(32, 47));
        e.is(47, found(33, 47));
        e.is(47, found(47, 47));
        e.is(NONE, found(48, 47));
        e.is(NONE, found(9999, 47));
        e.is(NONE, found(9999, 0));
    }

    /** The SCORE of the one GUESS of WORD 0 with a number, called from a ROUTINE; NONE. */
    private static int score(String text, int number, int r) {
        FrameWalks x = Checks.telling(text);
        x.poke(3, number);
        return x.guess(3, r, 0, 1);
    }

    private static void numbersInRoutines(Edges e) {
        e.terms("GUESSES are those with a number V of which V less 1 is in a ROUTINE: SCORE 1;");
        String text = "fun 0 9;sig 20 29;fun 999 999;";
        int[][] due = {{0, NONE}, {1, 1}, {10, 1}, {11, NONE}, {20, NONE}, {21, 1}, {30, 1}, {31, NONE}, {999, NONE}, {1000, 1},
            {1001, NONE}, {9999, NONE}};
        for (int[] one : due) {
            e.is(one[1], score(text, one[0], NONE));
            e.is(one[1], score(text, one[0], 0));
        }
    }

    private static void callsThere(Edges e) {
        e.terms("2 more, if a CALL is at V less 1;");
        String text = "fun 10 19;fun 30 39;call 15 500;call 15 600;call 500 501;call 19 999;";
        e.is(1, score(text, 15, 0));
        e.is(3, score(text, 16, 0));
        e.is(1, score(text, 17, 0));
        e.is(3, score(text, 20, 0));
        e.is(3, score(text, 16, NONE));
        e.is(NONE, score(text, 501, 0));
    }

    private static void callsThatLead(Edges e) {
        e.terms("4 more, if one is that leads to an ADDRESS of the ROUTINE of that FRAME.");
        String text = "fun 10 19;fun 30 39;call 11 29;call 12 30;call 13 39;call 14 40;call 15 500;call 15 35;call 16 35;";
        int[] due = {3, 7, 7, 3, 7, 7, 1};
        for (int j = 0; j < due.length; j++) {
            e.is(due[j], score(text, 12 + j, 1));
            e.is(Math.min(due[j], 3), score(text, 12 + j, 0));
            e.is(Math.min(due[j], 3), score(text, 12 + j, NONE));
        }
        String own = "fun 10 19;call 11 10;call 12 19;call 500 15;";
        e.is(7, score(own, 12, 0));
        e.is(7, score(own, 13, 0));
        e.is(1, score(own, 14, 0));
        FrameWalks frame = Edges.at("fun 10 19;off 0;fun 30 39;call 31 500;call 32 15;", 15, 0, 34, 32, 33, 0);
        e.is(3, frame.walk(1));
        e.is(33, frame.frame(1, P));
        FrameWalks ofNone = Edges.at("fun 10 19;off 0;fun 30 39;call 31 500;call 32 15;", 500, 0, 34, 32, 33, 0);
        ofNone.walk(1);
        e.is(32, ofNone.frame(1, P));
    }

    private static void best(Edges e) {
        e.terms("The best is that of greatest SCORE, of several the first WORD:");
        String text = "fun 10 19;off 0;fun 30 39;call 31 500;call 32 15;call 33 15;";
        int[][] words = {{31, 31, 31}, {31, 32, 31}, {31, 32, 33}, {33, 32, 31}, {33, 34, 33}, {31, 31, 32}, {32, 32, 31}, {0, 0, 31}};
        int[] due = {0, 1, 2, 0, 0, 2, 0, 2};
        for (int j = 0; j < words.length; j++) {
            FrameWalks x = Edges.at(text, 15, 0, words[j]);
            x.walk(1);
            e.is(due[j] + 1, x.frame(1, S));
            e.is(words[j][due[j]], x.frame(1, P));
            e.is(due[j], x.guess(0, 0, 0, 0));
        }
        FrameWalks last = Edges.at(text, 15, 0);
        for (int i = 0; i < 16; i++) {
            last.poke(i, i == 15 ? 33 : 32);
        }
        last.walk(1);
        e.is(16, last.frame(1, S));
    }

    private static void nextFrame(Edges e) {
        e.terms("the next FRAME has p V, s 1 more than the number of the WORD, the others as that one.");
        FrameWalks x = Edges.at("fun 0 0;off 0;fun 999 999;off 0;", 9999, 40);
        x.put(A, 9999);
        x.put(B, 1);
        x.put(C, 2);
        x.put(D, 3);
        x.poke(47, 1000);
        dueWalk(e, x, 2, 3, 1);
        int[] due = {9999, 1, 2, 3, 48, 1000};
        for (int v = 0; v < 6; v++) {
            e.is(due[v], x.frame(1, v));
        }
        int[] ahead = {9999, 1, 2, 3, 40, 9999};
        for (int v = 0; v < 6; v++) {
            e.is(ahead[v], x.frame(0, v));
        }
        e.is(1, x.came(1, 0));
        e.is(999, x.came(1, 1));
        x.put(S, 0);
        x.poke(0, 1);
        dueWalk(e, x, 2, 3, 1);
        e.is(1, x.frame(1, S));
        e.is(1, x.frame(1, P));
        e.is(0, x.came(1, 0));
        FrameWalks twice = Edges.at("fun 10 19;off 0;", 500, 0, 11, 12, 0);
        dueWalk(e, twice, 3, 3, 2);
        e.is(12, twice.frame(2, P));
        e.is(2, twice.frame(2, S));
    }

    private static void none(Edges e) {
        e.terms("(None: it ENDS as without.)");
        String text = "fun 10 19;off 0;fun 20 29;save a 99;";
        dueWalk(e, Edges.at(text, 500, 0), 1, 1, 0);
        dueWalk(e, Edges.at(text, 25, 0), 1, 2, 0);
        dueWalk(e, Edges.at(text, 15, 0), 1, 3, 0);
        dueWalk(e, Edges.at(text, 15, 9999), 1, 3, 0);
        dueWalk(e, Edges.at(text, 500, 0, 15), 2, 3, 1);
        dueWalk(e, new FrameWalks(), 1, 0, 0);
        FrameWalks full = Edges.at("fun 10 19;off 0;", 15, 0);
        for (int i = 0; i < 19; i++) {
            full.poke(i, 15);
        }
        dueWalk(e, full, 20, 3, 19);
        full.poke(19, 15);
        dueWalk(e, full, 20, 4, 19);
    }

    private static void guess(Edges e) {
        e.promise(21, "Of GUESSES from WORD s (0 to 47) on, called from ROUTINE r (NONE: from none): the i-th best (0 on):"
            + " 0 the WORD, 1 its SCORE.");
        FrameWalks x = Checks.telling("fun 10 19;fun 30 39;call 11 30;call 12 10;call 13 500;");
        Checks.pokeAll(x, 0, 11, 13, 12, 14, 0, 12, 13, 11);
        dueGuesses(e, x, 0, 0, 1, 7, 6, 7, 2, 3, 3, 3, 5, 3, 0, 1, 7, 1);
        dueGuesses(e, x, 0, 1, 2, 7, 5, 7, 1, 3, 3, 3, 6, 3, 0, 1, 7, 1);
        dueGuesses(e, x, 0, NONE, 1, 3, 2, 3, 3, 3, 5, 3, 6, 3, 0, 1, 7, 1);
        dueGuesses(e, x, 7, 0, 7, 1);
        dueGuesses(e, x, 8, 0);
        x.poke(47, 14);
        dueGuesses(e, x, 47, 0, 47, 3);
        dueGuesses(e, x, 32, 0, 47, 3);
        dueGuesses(e, x, 31, 0);
        x.walk(0);
        dueGuesses(e, x, 32, 1, 47, 3);
        e.is(1, x.rule(4));
    }

    private static void dueGuesses(Edges e, FrameWalks x, int s, int r, int... due) {
        for (int j = 0; j < due.length; j++) {
            e.is(due[j], x.guess(s, r, j / 2, j % 2));
        }
        e.all(NONE, x.guess(s, r, due.length / 2, 0), x.guess(s, r, due.length / 2, 1));
    }

    private static void guessBad(Edges e) {
        e.promise(21, "BAD: s, i, what, r;");
        for (int wrong : new int[] {-1, 48, NONE, Edges.LEAST, Edges.GREATEST}) {
            e.refused(BAD, x -> x.guess(wrong, 0, 0, 0));
        }
        for (int wrong : new int[] {-1, NONE, Edges.LEAST}) {
            e.refused(BAD, x -> x.guess(3, 0, wrong, 0));
            e.refused(BAD, x -> x.guess(20, 0, wrong, 0));
        }
        for (int wrong : new int[] {-1, 2, NONE, Edges.LEAST, Edges.GREATEST}) {
            e.refused(BAD, x -> x.guess(3, 0, 0, wrong));
            e.refused(BAD, x -> x.guess(20, 0, 0, wrong));
        }
        for (int wrong : new int[] {-1, -2, -3, -5, 2, 8, Edges.LEAST, Edges.GREATEST}) {
            e.refused(BAD, x -> x.guess(3, wrong, 0, 0));
            e.refused(BAD, x -> x.guess(20, wrong, 0, 0));
        }
        FrameWalks x = Edges.RICH.get();
        e.all(3, x.guess(3, 0, 0, 0), x.guess(3, 1, 0, 0), x.guess(3, NONE, 0, 0));
        e.is(BAD, new FrameWalks().guess(0, 0, 0, 0));
    }

    private static void guessNone(Edges e) {
        e.promise(21, "NONE: there are not so many.");
        e.refused(NONE, x -> x.guess(20, 0, 0, 0));
        e.refused(NONE, x -> x.guess(20, 0, 0, 1));
        e.refused(NONE, x -> x.guess(3, 0, 2, 0));
        e.refused(NONE, x -> x.guess(3, 0, Edges.GREATEST, 0));
        FrameWalks x = Checks.telling("fun 10 19;");
        for (int i = 0; i < 48; i++) {
            x.poke(i, 15);
        }
        e.is(15, x.guess(0, 0, 15, 0));
        e.is(NONE, x.guess(0, 0, 16, 0));
        e.is(47, x.guess(32, 0, 15, 0));
        e.is(NONE, x.guess(32, 0, 16, 0));
        e.is(47, x.guess(33, 0, 14, 0));
        e.is(NONE, x.guess(33, 0, 15, 0));
        e.is(47, x.guess(47, 0, 0, 0));
        e.is(NONE, x.guess(47, 0, 1, 0));
        e.is(NONE, new FrameWalks().guess(0, NONE, 0, 0));
    }
}
