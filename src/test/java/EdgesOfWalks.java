/** REGISTERS, WORDS, WALKS; promises 14 to 20: put, poke, get, peek, walk, frame, came. */
final class EdgesOfWalks {
    private static final int BAD = Edges.BAD, NONE = Edges.NONE;
    private static final int A = Edges.A, B = Edges.B, C = Edges.C, D = Edges.D, S = Edges.S, P = Edges.P;

    static void run(Edges e) {
        registers(e);
        words(e);
        numbers(e);
        put(e);
        putBad(e);
        poke(e);
        pokeBad(e);
        get(e);
        getBad(e);
        peek(e);
        peekBad(e);
        frame0(e);
        lookedUp(e);
        routineOfFrame(e);
        nextFrame(e);
        endsByPlace(e);
        endsWithoutRoutine(e);
        endsWithoutWord(e);
        endsByTop(e);
        endsByFrames(e);
        firstEnd(e);
        walk(e);
        walkBad(e);
        frame(e);
        frameBad(e);
        came(e);
        cameBad(e);
    }

    private static void registers(Edges e) {
        e.terms("REGISTERS 0 to 5: a, b, c, d, s (where the stack is), p (the place).");
        for (int v = 0; v < 6; v++) {
            String r = Character.toString("abcdsp".charAt(v));
            FrameWalks x = Edges.at("fun 10 19;in " + (v == A ? "b " : "a ") + r + ";", 15, 3, 0, 0, 0, 0);
            x.put(v, 15 + v);
            x.put(P, 15);
            e.is(v == P ? 15 : 15 + v, x.get(v));
            e.is(v, x.op(0, 2));
            x.walk(0);
            e.is(v == P ? 15 : 15 + v, x.frame(0, v));
        }
        e.all(BAD, new FrameWalks().get(6), new FrameWalks().get(-1));
    }

    private static void words(Edges e) {
        e.terms("WORDS 0 to 47 of the stack.");
        FrameWalks x = Edges.at("fun 10 19;", 15, 0, 19);
        e.is(3, x.walk(0));
        e.is(19, x.frame(1, P));
        x.put(S, 47);
        x.poke(47, 18);
        e.is(2, x.walk(0));
        e.is(18, x.frame(1, P));
        x.put(S, 48);
        e.is(1, x.walk(0));
        e.is(2, x.rule(5));
    }

    private static void numbers(Edges e) {
        e.terms("Each is a number 0 to 9999 (0 at first).");
        FrameWalks x = new FrameWalks();
        for (int v = 0; v < 6; v++) {
            e.is(0, x.get(v));
            e.is(0, x.put(v, 9999));
            e.is(BAD, x.put(v, 10000));
            e.is(9999, x.put(v, 0));
            e.is(BAD, x.put(v, -1));
            e.is(0, x.get(v));
        }
        for (int i = 0; i < 48; i++) {
            e.is(0, x.peek(i));
            e.is(0, x.poke(i, 9999));
            e.is(BAD, x.poke(i, 10000));
            e.is(9999, x.poke(i, 0));
            e.is(BAD, x.poke(i, -1));
            e.is(0, x.peek(i));
        }
    }

    private static void put(Edges e) {
        e.promise(14, "A REGISTER becomes x: what it was.");
        FrameWalks x = new FrameWalks();
        for (int v = 0; v < 6; v++) {
            e.is(0, x.put(v, 9999 - v));
        }
        for (int v = 0; v < 6; v++) {
            e.is(9999 - v, x.get(v));
            e.is(9999 - v, x.put(v, 1));
            e.is(1, x.put(v, 0));
        }
        e.is(0, x.count(3));
    }

    private static void putBad(Edges e) {
        e.promise(14, "BAD.");
        for (int wrong : new int[] {-1, 6, NONE, Edges.LEAST, Edges.GREATEST}) {
            e.refused(BAD, x -> x.put(wrong, 0));
        }
        for (int wrong : new int[] {-1, 10000, Edges.LEAST, Edges.GREATEST}) {
            e.refused(BAD, x -> x.put(0, wrong));
            e.refused(BAD, x -> x.put(5, wrong));
        }
    }

    private static void poke(Edges e) {
        e.promise(15, "A WORD becomes x: what it was.");
        FrameWalks x = new FrameWalks();
        for (int i = 0; i < 48; i++) {
            e.is(0, x.poke(i, 9999 - i));
        }
        for (int i = 0; i < 48; i++) {
            e.is(9999 - i, x.peek(i));
            e.is(9999 - i, x.poke(i, 1));
            e.is(1, x.poke(i, 0));
        }
        e.is(0, x.count(4));
    }

    private static void pokeBad(Edges e) {
        e.promise(15, "BAD.");
        for (int wrong : new int[] {-1, 48, NONE, Edges.LEAST, Edges.GREATEST}) {
            e.refused(BAD, x -> x.poke(wrong, 0));
        }
        for (int wrong : new int[] {-1, 10000, Edges.LEAST, Edges.GREATEST}) {
            e.refused(BAD, x -> x.poke(0, wrong));
            e.refused(BAD, x -> x.poke(47, wrong));
        }
    }

    private static void get(Edges e) {
        e.promise(16, "What a REGISTER has.");
        FrameWalks x = new FrameWalks();
        x.put(0, 9999);
        x.put(5, 1);
        e.is(9999, x.get(0));
        e.all(0, x.get(1), x.get(2), x.get(3), x.get(4));
        e.is(1, x.get(5));
    }

    private static void getBad(Edges e) {
        e.promise(16, "BAD.");
        for (int wrong : new int[] {-1, 6, NONE, Edges.LEAST, Edges.GREATEST}) {
            e.refused(BAD, x -> x.get(wrong));
        }
    }

    private static void peek(Edges e) {
        e.promise(17, "What a WORD has.");
        FrameWalks x = new FrameWalks();
        x.poke(0, 9999);
        x.poke(47, 1);
        e.is(9999, x.peek(0));
        e.all(0, x.peek(1), x.peek(46));
        e.is(1, x.peek(47));
    }

    private static void peekBad(Edges e) {
        e.promise(17, "BAD.");
        for (int wrong : new int[] {-1, 48, NONE, Edges.LEAST, Edges.GREATEST}) {
            e.refused(BAD, x -> x.peek(wrong));
        }
    }

    private static void dueFrame(Edges e, FrameWalks x, int k, int... due) {
        for (int v = 0; v < 6; v++) {
            e.is(due[v], x.frame(k, v));
        }
    }

    private static void dueCame(Edges e, FrameWalks x, int k, int routine, int looked, int way) {
        e.is(routine, x.came(k, 0));
        e.is(looked, x.came(k, 1));
        e.is(way, x.came(k, 2));
    }

    /** Frames of a WALK without GUESSES, and by what it ENDS. */
    private static void dueWalk(Edges e, FrameWalks x, int frames, int ended) {
        e.is(frames, x.walk(0));
        e.is(frames, x.rule(4));
        e.is(ended, x.rule(5));
    }

    private static void frame0(Edges e) {
        e.terms("FRAME 0 has the REGISTERS as they are.");
        FrameWalks x = new FrameWalks();
        x.walk(0);
        dueFrame(e, x, 0, 0, 0, 0, 0, 0, 0);
        for (int v = 0; v < 6; v++) {
            x.put(v, 9999 - v);
        }
        dueFrame(e, x, 0, 0, 0, 0, 0, 0, 0);
        x.walk(1);
        dueFrame(e, x, 0, 9999, 9998, 9997, 9996, 9995, 9994);
        dueCame(e, x, 0, NONE, 9994, 0);
    }

    private static void lookedUp(Edges e) {
        e.terms("LOOKED up is a FRAME by its p; but if it came of one that is no SIGNAL (or by looking through), by 1 less.");
        FrameWalks first = Edges.at("fun 10 10;", 10, 0, 10, 0);
        dueWalk(e, first, 2, 1);
        dueCame(e, first, 0, 0, 10, 0);
        dueCame(e, first, 1, NONE, 9, 1);
        FrameWalks routine = Edges.at("fun 10 10;", 10, 0, 11, 0);
        dueWalk(e, routine, 3, 0);
        dueCame(e, routine, 1, 0, 10, 1);
        FrameWalks signal = Edges.at("sig 10 10;fun 20 20;", 10, 0, 20, 11, 10, 0);
        dueWalk(e, signal, 5, 0);
        dueCame(e, signal, 1, 1, 20, 1);
        dueCame(e, signal, 2, 0, 10, 1);
        dueCame(e, signal, 3, 0, 10, 1);
        dueCame(e, signal, 4, NONE, 0, 1);
        FrameWalks through = Edges.at("sig 10 19;off 0;", 10, 0, 11);
        e.is(2, through.walk(1));
        dueCame(e, through, 1, 0, 10, 2);
        FrameWalks ofNone = Edges.at("sig 10 19;", 500, 0, 11, 0);
        e.is(3, ofNone.walk(1));
        dueCame(e, ofNone, 1, 0, 10, 2);
        dueCame(e, ofNone, 2, NONE, 0, 1);
    }

    private static void routineOfFrame(Edges e) {
        e.terms("Its ROUTINE is the one that has that ADDRESS.");
        int[][] due = {{9, NONE}, {10, 1}, {19, 1}, {20, 0}, {29, 0}, {30, NONE}, {999, 2}, {1000, NONE}, {9999, NONE}};
        for (int[] one : due) {
            FrameWalks x = Edges.at("fun 20 29;fun 10 19;fun 999 999;", one[0], 0);
            x.walk(0);
            e.is(one[1], x.came(0, 0));
        }
        FrameWalks x = Edges.at("fun 0 0;", 0, 0);
        x.walk(0);
        e.is(0, x.came(0, 0));
        FrameWalks edge = Edges.at("fun 0 0;fun 1 9;", 5, 0, 1, 0);
        dueWalk(e, edge, 3, 0);
        dueCame(e, edge, 1, 0, 0, 1);
        dueCame(e, edge, 2, NONE, -1, 1);
    }

    private static void nextFrame(Edges e) {
        e.terms("The next FRAME of one with a ROUTINE, by the ROW there: TOP is what BASE has, and OFF, in all; s of it is TOP; of"
            + " each other REGISTER: same what it has, saved N the WORD TOP less N, in Q what Q has.");
        FrameWalks x = Edges.at("fun 10 19;base c 5;save a 0;save b 9;in d s;save p 1;", 15, 2, 71, 72, 73, 74, 75, 76, 77, 78, 500, 80);
        x.put(A, 1);
        x.put(B, 2);
        x.put(C, 4);
        x.put(D, 6);
        dueWalk(e, x, 2, 1);
        dueFrame(e, x, 1, 80, 71, 4, 2, 9, 500);
        FrameWalks crossed = Edges.at("fun 10 19;in a b;in b a;in c p;in d d;in p c;", 15, 2);
        crossed.put(A, 1);
        crossed.put(B, 9999);
        crossed.put(C, 600);
        crossed.put(D, 7);
        dueWalk(e, crossed, 2, 1);
        dueFrame(e, crossed, 1, 9999, 1, 15, 7, 3, 600);
        FrameWalks ofTop = Edges.at("fun 10 19;in a s;base s 99;keep p;", 15, 9999);
        dueWalk(e, ofTop, 20, 4);
        e.is(9999, ofTop.frame(1, A));
        e.is(10098, ofTop.frame(1, S));
        e.is(10098, ofTop.frame(2, A));
        FrameWalks placed = Edges.at("fun 10 19;go 5;off 2;", 14, 0, 16, 0, 0);
        dueWalk(e, placed, 3, 0);
        e.is(1, placed.frame(1, S));
        e.is(3, placed.frame(2, S));
    }

    private static void endsByPlace(Edges e) {
        e.terms("A WALK goes from FRAME 0 on, till it ENDS: 0 p of a FRAME is 0;");
        dueWalk(e, new FrameWalks(), 1, 0);
        dueWalk(e, Edges.at("fun 0 9;", 0, 0, 5), 1, 0);
        dueWalk(e, Edges.at("fun 0 9;", 1, 0, 0, 5), 2, 0);
        dueWalk(e, Edges.at("fun 0 9;", 1, 0, 1, 0), 3, 0);
        FrameWalks behindSignal = Edges.at("sig 0 9;", 1, 0, 0, 5);
        dueWalk(e, behindSignal, 2, 0);
        dueCame(e, behindSignal, 1, 0, 0, 1);
        FrameWalks in0 = Edges.at("fun 10 19;in p a;", 15, 0);
        dueWalk(e, in0, 2, 0);
        e.is(1, in0.walk(1) - 1);
        e.is(0, in0.rule(5));
    }

    private static void endsWithoutRoutine(Edges e) {
        e.terms("1 a FRAME has no ROUTINE;");
        FrameWalks none = new FrameWalks();
        none.put(P, 1);
        dueWalk(e, none, 1, 1);
        dueWalk(e, Edges.at("fun 10 19;", 9, 0, 15), 1, 1);
        dueWalk(e, Edges.at("fun 10 19;", 20, 0, 15), 1, 1);
        dueWalk(e, Edges.at("fun 10 19;", 10, 0, 10), 2, 1);
        dueWalk(e, Edges.at("fun 10 19;", 19, 0, 20, 21), 3, 1);
        dueWalk(e, Edges.at("fun 10 19;", 9999, 0, 15), 1, 1);
    }

    private static void endsWithoutWord(Edges e) {
        e.terms("2 a WORD is not there that would be looked at;");
        FrameWalks last = Edges.at("fun 10 19;", 15, 47);
        last.poke(47, 500);
        dueWalk(e, last, 2, 1);
        dueWalk(e, Edges.at("fun 10 19;", 15, 48), 1, 2);
        dueWalk(e, Edges.at("fun 10 19;save a 2;", 15, 1, 0, 500), 2, 1);
        dueWalk(e, Edges.at("fun 10 19;save a 2;", 15, 0, 500), 1, 2);
        dueWalk(e, Edges.at("fun 10 19;save a 0;", 15, 46), 2, 0);
        dueWalk(e, Edges.at("fun 10 19;save a 0;", 15, 47), 1, 2);
        dueWalk(e, Edges.at("fun 10 19;save p 99;off 99;", 15, 0, 500), 2, 1);
        dueWalk(e, Edges.at("fun 10 19;save p 99;off 98;", 15, 0, 500), 1, 2);
        for (int v = 0; v < 4; v++) {
            String save = "save " + "abcd".charAt(v) + " 2;";
            dueWalk(e, Edges.at("fun 10 19;" + save, 15, 0, 500), 1, 2);
            dueWalk(e, Edges.at("fun 10 19;" + save + "keep " + "abcd".charAt(v) + ";", 15, 0, 500), 2, 1);
        }
        FrameWalks unasked = Edges.at("fun 10 19;in p a;", 15, 9999);
        unasked.put(A, 500);
        dueWalk(e, unasked, 2, 1);
        FrameWalks changed = Edges.at("fun 10 19;", 15, 47);
        dueWalk(e, changed, 2, 0);
        changed.put(S, 48);
        dueWalk(e, changed, 1, 2);
    }

    private static void endsByTop(Edges e) {
        e.terms("3 TOP is no more than s of the FRAME;");
        dueWalk(e, Edges.at("fun 10 19;off 0;", 15, 5, 0, 0, 0, 0, 500), 1, 3);
        dueWalk(e, Edges.at("fun 10 19;off 1;", 15, 5), 2, 0);
        for (int a = 3; a < 7; a++) {
            FrameWalks x = Edges.at("fun 10 19;base a 1;", 15, 5, 500, 500, 500, 500, 500, 500, 500);
            x.put(A, a);
            dueWalk(e, x, a < 5 ? 1 : 2, a < 5 ? 3 : 1);
        }
        dueWalk(e, Edges.at("fun 10 19;base a 0;", 15, 0, 500), 1, 3);
        FrameWalks later = Edges.at("fun 10 19;base a 0;", 15, 5, 0, 0, 0, 0, 0, 12, 13);
        later.put(A, 6);
        dueWalk(e, later, 2, 3);
    }

    private static FrameWalks long20() {
        FrameWalks x = Edges.at("fun 10 19;", 15, 0);
        for (int i = 0; i < 48; i++) {
            x.poke(i, 15);
        }
        return x;
    }

    private static void endsByFrames(Edges e) {
        e.terms("4 there are 20 FRAMES and one more would come (by a ROW, or a GUESS).");
        FrameWalks x = long20();
        dueWalk(e, x, 20, 4);
        e.is(19, x.frame(19, S));
        e.is(BAD, x.frame(20, S));
        e.is(20, x.walk(1));
        e.is(4, x.rule(5));
        e.is(0, x.rule(6));
        x.poke(18, 0);
        dueWalk(e, x, 20, 0);
        x.poke(17, 0);
        dueWalk(e, x, 19, 0);
        FrameWalks guessed = long20();
        guessed.poke(18, 500);
        dueWalk(e, guessed, 20, 1);
        e.is(20, guessed.walk(1));
        e.is(4, guessed.rule(5));
        e.is(0, guessed.rule(6));
        for (int i = 19; i < 48; i++) {
            guessed.poke(i, 500);
        }
        e.is(20, guessed.walk(1));
        e.is(1, guessed.rule(5));
        guessed.poke(34, 15);
        e.is(20, guessed.walk(1));
        e.is(4, guessed.rule(5));
    }

    private static void firstEnd(Edges e) {
        e.terms("The first that fits, 3 ahead of 2.");
        dueWalk(e, Edges.at("fun 10 19;", 0, 9999), 1, 0);
        dueWalk(e, Edges.at("fun 0 19;off 0;save a 99;", 0, 9999), 1, 0);
        dueWalk(e, Edges.at("fun 10 19;off 0;", 20, 9999), 1, 1);
        dueWalk(e, Edges.at("fun 10 19;off 0;", 15, 9999), 1, 3);
        dueWalk(e, Edges.at("fun 10 19;off 0;", 15, 0), 1, 3);
        dueWalk(e, Edges.at("fun 10 19;off 1;", 15, 9999), 1, 2);
        FrameWalks word = long20();
        word.put(S, 29);
        dueWalk(e, word, 20, 2);
        word.put(S, 28);
        dueWalk(e, word, 20, 4);
        FrameWalks top = long20();
        e.is(1, Checks.tell(top, "fun 0 999;"));
        top.poke(18, 500);
        dueWalk(e, top, 20, 4);
        e.is(4, Checks.tell(top, "fun 0 99;fun 400 599;off 0;save a 99;"));
        dueWalk(e, top, 20, 3);
    }

    private static void walk(Edges e) {
        e.promise(18, "A WALK, with GUESSES (1) or without (0): how many FRAMES.");
        FrameWalks x = Edges.at("fun 10 19;", 500, 0, 15, 0);
        e.is(1, x.walk(0));
        e.is(3, x.walk(1));
        e.is(1, x.rule(6));
        e.is(1, x.walk(0));
        e.is(0, x.rule(6));
        e.is(BAD, x.frame(1, 0));
        e.is(500, x.get(P));
        e.is(20, long20().walk(0));
        e.is(20, long20().walk(1));
    }

    private static void walkBad(Edges e) {
        e.promise(18, "BAD.");
        for (int wrong : new int[] {-1, 2, NONE, Edges.LEAST, Edges.GREATEST}) {
            e.refused(BAD, x -> x.walk(wrong));
            e.refused(BAD, FrameWalks::new, x -> x.walk(wrong));
        }
    }

    private static void frame(Edges e) {
        e.promise(19, "What a REGISTER has in a FRAME of the latest WALK.");
        FrameWalks x = Edges.RICH.get();
        dueFrame(e, x, 0, 41, 0, 55, 0, 3, 15);
        dueFrame(e, x, 1, 77, 55, 55, 0, 4, 31);
        dueFrame(e, x, 2, 77, 55, 55, 0, 5, 16);
        x.put(A, 1);
        x.poke(3, 1);
        x.alter(0, 0);
        x.move(0, 1, 10);
        dueFrame(e, x, 1, 77, 55, 55, 0, 4, 31);
        x.walk(0);
        dueFrame(e, x, 0, 1, 0, 55, 0, 3, 15);
    }

    private static void frameBad(Edges e) {
        e.promise(19, "BAD: also no such FRAME, no WALK.");
        e.is(4, Edges.RICH.get().rule(4));
        for (int wrong : new int[] {-1, 4, 19, 20, NONE, Edges.LEAST, Edges.GREATEST}) {
            e.refused(BAD, x -> x.frame(wrong, 0));
        }
        for (int wrong : new int[] {-1, 6, NONE, Edges.LEAST, Edges.GREATEST}) {
            e.refused(BAD, x -> x.frame(0, wrong));
        }
        e.refused(BAD, FrameWalks::new, x -> x.frame(0, 0));
        FrameWalks gone = Edges.RICH.get();
        e.is(0, gone.frame(3, P));
        gone.back(0);
        e.is(BAD, gone.frame(0, 0));
        FrameWalks most = long20();
        most.walk(0);
        e.is(15, most.frame(19, P));
        e.is(BAD, most.frame(20, P));
    }

    private static void came(Edges e) {
        e.promise(20, "Of a FRAME of the latest WALK, as it was then: 0 its ROUTINE (NONE), 1 by which ADDRESS it was LOOKED up,"
            + " 2 how it came (0 as the first, 1 by a ROW, 2 by a GUESS).");
        FrameWalks x = Edges.RICH.get();
        int[][] due = {{0, 15, 0}, {1, 30, 1}, {0, 16, 1}, {NONE, -1, 1}};
        for (int k = 0; k < 4; k++) {
            dueCame(e, x, k, due[k][0], due[k][1], due[k][2]);
        }
        x.move(0, 0, 19);
        x.move(1, 0, 38);
        x.put(P, 500);
        for (int k = 0; k < 4; k++) {
            dueCame(e, x, k, due[k][0], due[k][1], due[k][2]);
        }
        FrameWalks guessed = Edges.at("fun 10 19;", 500, 46);
        guessed.poke(47, 15);
        e.is(2, guessed.walk(1));
        dueCame(e, guessed, 0, NONE, 500, 0);
        dueCame(e, guessed, 1, 0, 14, 2);
    }

    private static void cameBad(Edges e) {
        e.promise(20, "BAD.");
        for (int wrong : new int[] {-1, 4, 19, 20, NONE, Edges.LEAST, Edges.GREATEST}) {
            e.refused(BAD, x -> x.came(wrong, 0));
        }
        for (int wrong : new int[] {-1, 3, NONE, Edges.LEAST, Edges.GREATEST}) {
            e.refused(BAD, x -> x.came(0, wrong));
        }
        e.refused(BAD, FrameWalks::new, x -> x.came(0, 0));
        FrameWalks most = long20();
        most.walk(0);
        e.is(1, most.came(19, 2));
        e.is(BAD, most.came(20, 2));
    }
}
