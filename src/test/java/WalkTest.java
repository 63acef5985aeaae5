/** Promises 18 to 21: walk, frame, came, guess. */
public final class WalkTest {
    private static final Checks checks = new Checks();

    public static void main(String[] args) {
        endsByPlace0();
        endsWithoutRoutine();
        endsByMissingWord();
        endsByTop();
        topAheadOfWord();
        endsByTooMany();
        registersOfCallers();
        lookedUpByOneLess();
        signals();
        asItWasThen();
        greatNumbers();
        guesses();
        guessesOfSeveral();
        guessWrong();
        walkWithGuesses();
        guessesByEachEnd();
        guessesTooMany();
        guessFromSignal();
        wrongNumbers();
        checks.close("WalkTest");
    }

    private static void dueWalk(FrameWalks x, int guesses, int frames, int ended, int guessed) {
        checks.due("walk", x.walk(guesses), frames);
        checks.due("frames", x.rule(4), frames);
        checks.due("ended", x.rule(5), ended);
        checks.due("guessed", x.rule(6), guessed);
    }

    private static void dueCame(FrameWalks x, int k, int routine, int looked, int way) {
        checks.due("routine of frame " + k, x.came(k, 0), routine);
        checks.due("looked of frame " + k, x.came(k, 1), looked);
        checks.due("way of frame " + k, x.came(k, 2), way);
    }

    private static void dueFrame(FrameWalks x, int k, int... due) {
        for (int v = 0; v < 6; v++) {
            checks.due("register " + v + " of frame " + k, x.frame(k, v), due[v]);
        }
    }

    private static FrameWalks at(String text, int p, int s, int... words) {
        FrameWalks x = Checks.telling(text);
        x.put(Checks.P, p);
        x.put(Checks.S, s);
        Checks.pokeAll(x, 0, words);
        return x;
    }

    private static void endsByPlace0() {
        FrameWalks x = at("fun 0 9;", 0, 0, 5);
        dueWalk(x, 0, 1, 0, 0);
        dueCame(x, 0, 0, 0, 0);
        dueWalk(x, 1, 1, 0, 0);
        x = at("fun 1 9;", 5, 0, 6, 0);
        dueWalk(x, 1, 3, 0, 0);
        dueCame(x, 2, Checks.NONE, -1, 1);
    }

    private static void endsWithoutRoutine() {
        FrameWalks x = at("fun 10 19;", 15, 0, 20, 10);
        dueWalk(x, 0, 3, 1, 0);
        dueCame(x, 1, 0, 19, 1);
        dueCame(x, 2, Checks.NONE, 9, 1);
        x.put(Checks.P, 9999);
        dueWalk(x, 0, 1, 1, 0);
        dueCame(x, 0, Checks.NONE, 9999, 0);
    }

    private static void endsByMissingWord() {
        FrameWalks x = at("fun 10 19;", 15, 47);
        x.poke(47, 12);
        dueWalk(x, 0, 2, 2, 0);
        checks.due("s of the last", x.frame(1, Checks.S), 48);
        dueWalk(at("fun 10 19;save d 2;", 15, 0, 12, 13), 0, 1, 2, 0);
        dueWalk(at("fun 10 19;save d 1;", 15, 0, 12, 0), 0, 3, 0, 0);
        dueWalk(at("fun 10 19;keep p;save a 0;off 48;", 15, 0), 0, 1, 2, 0);
        dueWalk(at("fun 10 19;keep p;save a 0;off 47;", 15, 0), 0, 2, 2, 0);
    }

    private static void endsByTop() {
        FrameWalks x = at("fun 10 19;base a 0;", 15, 5, 1, 1, 1, 1, 1, 1);
        x.put(Checks.A, 5);
        dueWalk(x, 0, 1, 3, 0);
        x.put(Checks.A, 6);
        x.poke(5, 0);
        dueWalk(x, 0, 2, 0, 0);
        dueWalk(at("fun 10 19;off 0;", 15, 5), 0, 1, 3, 0);
    }

    private static void topAheadOfWord() {
        dueWalk(at("fun 10 19;base a 0;", 15, 5), 0, 1, 3, 0);
        dueWalk(at("fun 10 19;off 0;", 15, 9999), 0, 1, 3, 0);
        dueWalk(at("fun 10 19;", 15, 9999), 0, 1, 2, 0);
    }

    private static void endsByTooMany() {
        int[] words = new int[48];
        java.util.Arrays.fill(words, 15);
        FrameWalks x = at("fun 10 19;", 15, 0, words);
        dueWalk(x, 0, 20, 4, 0);
        checks.due("s of frame 19", x.frame(19, Checks.S), 19);
        checks.dueBad("frame 20", x.frame(20, 0));
        x.poke(18, 0);
        dueWalk(x, 0, 20, 0, 0);
        x.poke(18, 5);
        dueWalk(x, 0, 20, 1, 0);
        x.poke(18, 15);
        x.put(Checks.S, 29);
        dueWalk(x, 0, 20, 2, 0);
    }

    private static void registersOfCallers() {
        FrameWalks x = at("fun 10 19;base b 4;save a 1;save c 3;in d s;in b a;save p 2;", 15, 3,
            0, 0, 0, 0, 0, 0, 0, 31, 32, 33);
        x.put(Checks.A, 70);
        x.put(Checks.B, 6);
        x.put(Checks.C, 80);
        x.put(Checks.D, 90);
        dueWalk(x, 0, 2, 1, 0);
        dueFrame(x, 0, 70, 6, 80, 90, 3, 15);
        dueFrame(x, 1, 33, 70, 31, 3, 10, 32);
        x = at("fun 10 19;in p c;in a b;in b a;in c p;in d d;", 15, 3);
        x.put(Checks.A, 1);
        x.put(Checks.B, 2);
        x.put(Checks.C, 500);
        x.put(Checks.D, 4);
        dueWalk(x, 0, 2, 1, 0);
        dueFrame(x, 1, 2, 1, 15, 4, 4, 500);
    }

    private static void lookedUpByOneLess() {
        FrameWalks x = at("fun 10 19;go 9;off 3;fun 20 29;", 20, 0, 20, 0, 0, 0);
        dueWalk(x, 0, 3, 0, 0);
        dueCame(x, 0, 1, 20, 0);
        dueCame(x, 1, 0, 19, 1);
        checks.due("s by the row at one less", x.frame(2, Checks.S), 4);
    }

    private static void signals() {
        FrameWalks x = at("sig 10 19;fun 20 29;", 15, 0, 20, 20, 0);
        dueWalk(x, 0, 4, 0, 0);
        dueCame(x, 0, 0, 15, 0);
        dueCame(x, 1, 1, 20, 1);
        dueCame(x, 2, 0, 19, 1);
        dueCame(x, 3, Checks.NONE, 0, 1);
    }

    private static void asItWasThen() {
        FrameWalks x = at("fun 10 19;", 15, 0, 12, 0);
        dueWalk(x, 0, 3, 0, 0);
        x.move(0, 1, 11);
        x.put(Checks.P, 1);
        x.poke(0, 99);
        dueCame(x, 0, 0, 15, 0);
        dueFrame(x, 1, 0, 0, 0, 0, 1, 12);
        checks.due("frames stay", x.rule(4), 3);
    }

    private static void greatNumbers() {
        FrameWalks x = at("fun 10 19;keep p;base a 99;in a s;", 15, 9999);
        x.put(Checks.A, 9999);
        dueWalk(x, 0, 2, 3, 0);
        checks.due("s above all numbers", x.frame(1, Checks.S), 10098);
        x = at("fun 10 19;keep p;off 99;", 15, 9999);
        dueWalk(x, 1, 20, 4, 0);
        checks.due("s of frame 19", x.frame(19, Checks.S), 9999 + 19 * 99);
        checks.due("p of frame 19", x.frame(19, Checks.P), 15);
    }

    private static FrameWalks hunting() {
        // WORD 3: no CALL; 5: a CALL elsewhere; 6: a CALL into ROUTINE 0; 9: one elsewhere; 17: into ROUTINE 0.
        FrameWalks x = Checks.telling("fun 10 19;fun 30 39;call 31 500;call 32 10;call 33 30;call 33 19;call 34 9;");
        Checks.pokeAll(x, 3, 31, 0, 32, 33);
        x.poke(9, 35);
        x.poke(17, 34);
        x.poke(18, 40);
        x.poke(19, 30);
        x.poke(47, 20);
        return x;
    }

    private static void dueGuesses(FrameWalks x, int s, int r, int... due) {
        for (int i = 0; i + 1 < due.length; i += 2) {
            checks.due("word of guess " + i / 2 + " from " + s + " of " + r, x.guess(s, r, i / 2, 0), due[i]);
            checks.due("score of guess " + i / 2 + " from " + s + " of " + r, x.guess(s, r, i / 2, 1), due[i + 1]);
        }
        checks.due("no more guesses", x.guess(s, r, due.length / 2, 0), Checks.NONE);
        checks.due("no more scores", x.guess(s, r, due.length / 2, 1), Checks.NONE);
    }

    private static void guesses() {
        FrameWalks x = hunting();
        dueGuesses(x, 0, 0, 6, 7, 5, 3, 9, 3, 3, 1);
        dueGuesses(x, 2, 0, 6, 7, 17, 7, 5, 3, 9, 3, 3, 1);
        dueGuesses(x, 3, 0, 6, 7, 17, 7, 5, 3, 9, 3, 3, 1, 18, 1);
        dueGuesses(x, 4, 0, 6, 7, 17, 7, 5, 3, 9, 3, 18, 1);
        dueGuesses(x, 4, 1, 17, 7, 5, 3, 6, 3, 9, 3, 18, 1);
        dueGuesses(x, 4, Checks.NONE, 5, 3, 6, 3, 9, 3, 17, 3, 18, 1);
        dueGuesses(x, 20, 0);
        dueGuesses(x, 31, 0);
        dueGuesses(x, 32, 0, 47, 1);
        dueGuesses(x, 47, Checks.NONE, 47, 1);
        dueGuesses(new FrameWalks(), 0, Checks.NONE);
        dueGuesses(Checks.telling("fun 0 999;"), 0, 0);
    }

    private static void guessesOfSeveral() {
        FrameWalks x = Checks.telling("fun 0 9;call 4 4;");
        int[] due = new int[32];
        for (int i = 0; i < 48; i++) {
            x.poke(i, 1);
        }
        for (int i = 0; i < 16; i++) {
            due[2 * i] = 8 + i;
            due[2 * i + 1] = 1;
        }
        dueGuesses(x, 8, 0, due);
        x.poke(23, 5);
        System.arraycopy(due.clone(), 0, due, 2, 30);
        due[0] = 23;
        due[1] = 7;
        dueGuesses(x, 8, 0, due);
    }

    private static void guessWrong() {
        FrameWalks x = hunting();
        checks.dueBad("s -1", x.guess(-1, 0, 0, 0));
        checks.dueBad("s 48", x.guess(48, 0, 0, 0));
        checks.dueBad("r 2", x.guess(0, 2, 0, 0));
        checks.dueBad("r -1", x.guess(0, -1, 0, 0));
        checks.dueBad("r -5", x.guess(0, -5, 0, 0));
        checks.dueBad("i -1", x.guess(0, 0, -1, 0));
        checks.dueBad("what 2", x.guess(0, 0, 0, 2));
        checks.dueBad("what -1", x.guess(0, 0, 0, -1));
        checks.dueBad("what 2 of none", x.guess(20, 0, 0, 2));
        checks.due("i of the greatest", x.guess(0, 0, Integer.MAX_VALUE, 0), Checks.NONE);
    }

    private static void walkWithGuesses() {
        FrameWalks x = at("fun 10 19;fun 30 39;call 31 10;", 500, 1, 0, 7, 33, 32, 11);
        x.put(Checks.A, 41);
        x.put(Checks.B, 42);
        dueWalk(x, 0, 1, 1, 0);
        dueWalk(x, 1, 4, 0, 1);
        dueCame(x, 1, 1, 31, 2);
        dueFrame(x, 1, 41, 42, 0, 0, 4, 32);
        dueCame(x, 2, 0, 10, 1);
        dueFrame(x, 2, 41, 42, 0, 0, 5, 11);
        x.poke(3, 0);
        x.poke(2, 0);
        dueWalk(x, 1, 3, 0, 1);
        checks.due("p of the guess", x.frame(1, Checks.P), 11);
        x.put(Checks.S, 48);
        dueWalk(x, 1, 1, 1, 0);
        x.put(Checks.S, 9999);
        dueWalk(x, 1, 1, 1, 0);
    }

    private static void guessesByEachEnd() {
        String text = "fun 10 19;off 0;fun 30 39;save a 90;fun 40 49;call 41 15;call 42 35;";
        FrameWalks x = at(text, 15, 0, 43, 42, 0);
        dueWalk(x, 0, 1, 3, 0);
        dueWalk(x, 1, 3, 0, 1);
        checks.due("the call into routine 0", x.frame(1, Checks.P), 42);
        x.put(Checks.P, 35);
        dueWalk(x, 0, 1, 2, 0);
        dueWalk(x, 1, 4, 0, 1);
        checks.due("the call into routine 1", x.frame(1, Checks.P), 43);
        x.put(Checks.P, 500);
        dueWalk(x, 1, 4, 0, 1);
        checks.due("a call, the first word", x.frame(1, Checks.P), 43);
    }

    private static void guessesTooMany() {
        FrameWalks x = at("fun 10 19;off 0;", 15, 0);
        for (int i = 0; i < 20; i++) {
            x.poke(i, 15);
        }
        dueWalk(x, 1, 20, 4, 19);
        checks.due("s of frame 19", x.frame(19, Checks.S), 19);
        checks.due("way of frame 19", x.came(19, 2), 2);
        x.poke(19, 0);
        dueWalk(x, 1, 20, 3, 19);
        x.poke(18, 0);
        dueWalk(x, 1, 19, 3, 18);
    }

    private static void guessFromSignal() {
        FrameWalks x = at("sig 10 19;off 0;fun 20 29;", 15, 0, 20, 21);
        dueWalk(x, 1, 4, 0, 2);
        dueCame(x, 1, 0, 19, 2);
        dueCame(x, 2, 1, 20, 2);
    }

    private static void wrongNumbers() {
        FrameWalks x = at("fun 10 19;", 15, 0, 12, 0);
        checks.dueBad("walk 2", x.walk(2));
        checks.dueBad("walk -1", x.walk(-1));
        checks.due("refused walks are none", x.rule(4), Checks.NONE);
        checks.dueBad("frame ahead of a walk", x.frame(0, 0));
        checks.dueBad("came ahead of a walk", x.came(0, 0));
        x.walk(0);
        checks.dueBad("walk 2", x.walk(2));
        checks.due("the walk stays", x.rule(4), 3);
        checks.dueBad("frame 3", x.frame(3, 0));
        checks.dueBad("frame -1", x.frame(-1, 0));
        checks.dueBad("register 6", x.frame(0, 6));
        checks.dueBad("register -1", x.frame(0, -1));
        checks.dueBad("came 3", x.came(3, 0));
        checks.dueBad("came -1", x.came(-1, 0));
        checks.dueBad("came what 3", x.came(0, 3));
        checks.dueBad("came what -1", x.came(0, -1));
    }
}
