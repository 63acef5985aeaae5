/** Answers, THE TAPE, its TOKENS and lines; promises 1 to 5: a new object, feed, end, text, fault. */
final class EdgesOfText {
    private static final int BAD = Edges.BAD, STATE = Edges.STATE, FULL = Edges.FULL, NONE = Edges.NONE;

    static void run(Edges e) {
        calls512(e);
        answers(e);
        firstThatFits(e);
        newObject(e);
        feedTakesBytes(e);
        feedFull(e);
        tapeHas320(e);
        endKeeps(e);
        endBad(e);
        textCountsLines(e);
        textWithFault(e);
        textTaken(e);
        textLeavesNumbers(e);
        faultOfLatest(e);
        tokens(e);
        lines(e);
        routinesTold(e);
        opsAndLandingsTold(e);
        callsTold(e);
        smallNumbers(e);
    }

    private static void calls512(Edges e) {
        e.uses("An object is used for at most 512 calls after it has been made;");
        FrameWalks x = new FrameWalks();
        for (int n = 1; n <= 510; n++) {
            x.put(n % 6, n);
        }
        e.is(510 + 509 + 508 + 507 + 506 + 505, x.count(3));
        e.is(510, x.put(0, 1));
    }

    private static void answers(Edges e) {
        e.terms("Answers: BAD -1 (a number is not as told, there is no such ROUTINE, OP, CALL, LANDING, FRAME, WORD, IMAGE,"
            + " SHEET), STATE -2 (as told), FULL -3, NONE -4 (there is none)");
        e.is(-1, FrameWalks.BAD);
        e.is(-2, FrameWalks.STATE);
        e.is(-3, FrameWalks.FULL);
        e.is(-4, FrameWalks.NONE);
        e.refused(-1, x -> x.feed(128));
        e.refused(-1, x -> x.routine(2, 0));
        e.refused(-1, x -> x.op(4, 0));
        e.refused(-1, x -> x.call(1, 0));
        e.refused(-1, x -> x.landing(2, 0));
        e.refused(-1, x -> x.frame(4, 0));
        e.refused(-1, x -> x.peek(48));
        e.refused(-1, x -> x.back(2));
        e.refused(-1, x -> x.lay(4, 0, 0));
        e.refused(-2, x -> x.back(1));
        e.refused(-3, EdgesOfText::fullTape, x -> x.feed(32));
        e.refused(-4, x -> x.whose(20));
    }

    private static void firstThatFits(Edges e) {
        e.terms("the first that fits; what is refused changes nothing (but THE TAPE, as told).");
        e.refused(BAD, EdgesOfText::fullTape, x -> x.feed(128));
        e.refused(BAD, FrameWalks::new, x -> x.caught(0, 0));
        e.refused(BAD, FrameWalks::new, x -> x.caught(1, 2));
        e.refused(STATE, FrameWalks::new, x -> x.caught(1, 0));
        e.refused(BAD, FrameWalks::new, x -> x.cleaned(10, 0));
        e.refused(BAD, FrameWalks::new, x -> x.cleaned(1, -1));
        e.refused(STATE, FrameWalks::new, x -> x.cleaned(1, 0));
        e.refused(BAD, FrameWalks::new, x -> x.back(2));
        e.refused(STATE, FrameWalks::new, x -> x.back(0));
        e.refused(BAD, x -> x.row(20, 3));
        e.refused(BAD, x -> x.ruleOf(20, Edges.S, 0));
        e.refused(BAD, x -> x.guess(20, 0, 0, 2));
        e.refused(BAD, x -> x.move(0, 0, 31));
        e.refused(BAD, x -> x.sheet(4, 0, -1));
        e.refused(BAD, x -> x.sheet(0, 3, -1));
        e.refused(BAD, x -> x.read(0, 3, 9, 1, 99));
        e.refused(BAD, x -> x.read(2, 0, 0, 41, 0));
        FrameWalks x = Edges.RICH.get();
        e.is(14, x.count(1));
        e.is(-10 - 14, Checks.tell(x, "?"));
        e.is(0, x.count(1));
    }

    private static FrameWalks fullTape() {
        FrameWalks x = new FrameWalks();
        Checks.feed(x, "fun 1 2;" + " ".repeat(312));
        return x;
    }

    private static void newObject(Edges e) {
        e.promise(1, "No ROUTINES; SHEETS have nothing.");
        FrameWalks x = new FrameWalks();
        e.is(0, x.rule(0));
        e.is(0, x.rule(7));
        e.is(BAD, x.routine(0, 0));
        e.all(NONE, x.whose(0), x.whose(999), x.row(0, 0), x.ruleOf(0, 0, 0));
        e.is(NONE, x.count(2));
        for (int k = 0; k < 4; k++) {
            e.is(-11, x.lay(k, 0, 0));
            for (int lane = 0; lane < 3; lane++) {
                e.is(0, x.read(k, lane, 0, 1, 0));
                e.is(1, x.torn());
            }
        }
    }

    private static void feedTakesBytes(Edges e) {
        e.promise(2, "A byte (0 to 127) comes behind THE TAPE: how many it has.");
        FrameWalks x = new FrameWalks();
        for (int c = 0; c < 128; c++) {
            e.is(c + 1, x.feed(c));
        }
        e.is(128, x.count(1));
        FrameWalks order = new FrameWalks();
        Checks.feed(order, "fun 3 ");
        e.is(7, order.feed('7'));
        e.is(8, order.feed(';'));
        e.is(1, order.text());
        e.is(7, order.routine(0, 1));
        e.is(1, order.feed(0));
    }

    private static void feedFull(Edges e) {
        e.promise(2, "BAD; FULL: more than 320.");
        for (int c : new int[] {-1, 128, 129, 256 + 32, Edges.LEAST, Edges.GREATEST}) {
            e.refused(BAD, x -> x.feed(c));
        }
        FrameWalks x = new FrameWalks();
        for (int n = 1; n < 320; n++) {
            x.feed(32);
        }
        e.is(319, x.count(1));
        e.is(320, x.feed(32));
        e.is(FULL, x.feed(32));
        e.is(320, x.count(1));
        e.is(320, x.end(319));
        e.is(320, x.feed(32));
        e.is(FULL, x.feed(0));
        e.is(0, x.text());
        e.is(1, x.feed(32));
        e.refused(FULL, EdgesOfText::fullTape, full -> full.feed(127));
    }

    private static void tapeHas320(Edges e) {
        e.terms("THE TAPE has 320 bytes, places from 0.");
        e.fault(1, 0, "#" + " ".repeat(319));
        e.fault(1, 1, " #" + " ".repeat(318));
        e.fault(1, 319, " ".repeat(319) + "#");
        e.fault(2, 319, " ".repeat(319) + ";");
        e.fault(2, 320, " ".repeat(317) + "fun");
        e.fault(2, 320, " ".repeat(313) + "fun 1 2");
        e.fault(2, 320, " ".repeat(311) + "fun 1 234");
        e.taken(2, "fun 1 2;" + " ".repeat(307) + "mark;");
        e.taken(0, " ".repeat(320));
    }

    private static void endKeeps(Edges e) {
        e.promise(3, "THE TAPE keeps its first n bytes: how many it had.");
        FrameWalks x = new FrameWalks();
        e.is(0, x.end(0));
        Checks.feed(x, "fun 1 23;");
        e.is(9, x.end(9));
        e.is(9, x.end(8));
        e.is(8, x.end(7));
        e.is(7, x.count(1));
        e.is(8, x.feed(';'));
        e.is(1, x.text());
        e.is(2, x.routine(0, 1));
        e.is(0, x.end(0));
        Checks.feed(x, "fun 1 2;");
        e.is(8, x.end(0));
        e.is(0, x.count(1));
        e.is(0, x.text());
        e.is(0, x.rule(0));
        for (String cut : new String[] {"fun 1 2345", "fun 1 2;", "fun 1 2 3", "fun 1 2 ;"}) {
            Checks.feed(x, cut);
            e.is(cut.length(), x.end(7));
            e.is(-10 - 7, x.text());
            e.is(2, x.fault());
        }
        Checks.feed(x, "fun 8 9;markmark;");
        e.is(17, x.end(12));
        e.is(-10 - 12, x.text());
        FrameWalks full = fullTape();
        e.is(320, full.end(320));
        e.is(320, full.end(0));
        e.is(1, full.feed(0));
    }

    private static void endBad(Edges e) {
        e.promise(3, "BAD.");
        for (int n : new int[] {-1, 15, 320, 321, Edges.LEAST, Edges.GREATEST}) {
            e.refused(BAD, x -> x.end(n));
        }
        e.refused(BAD, FrameWalks::new, x -> x.end(1));
        e.refused(BAD, FrameWalks::new, x -> x.end(-1));
        e.refused(BAD, EdgesOfText::fullTape, x -> x.end(321));
    }

    private static void textCountsLines(Edges e) {
        e.promise(4, "THE TAPE (empty then) tells all: how many lines;");
        e.taken(0, "");
        e.taken(0, " ");
        e.taken(1, "fun 0 0;");
        StringBuilder most = new StringBuilder();
        for (int r = 1; r <= 8; r++) {
            most.append("fun").append(r).append(' ').append(r).append(';');
        }
        most.append("go1;".repeat(40)).append("call1 1;".repeat(13));
        e.is(320, most.length());
        FrameWalks x = new FrameWalks();
        e.is(61, Checks.tell(x, most.toString()));
        e.is(0, x.count(1));
        e.is(0, x.text());
        e.is(0, x.rule(0));
    }

    /** Refused texts of each FAULT. */
    private static final String[] REFUSED = {"fun 3 4;?", "fun 3 4;mark", "fun 3 4;go 100;", "fun 3 4;keep s;", "mark;",
        "fun 3 4;call 1 2;land 3 3 1 1;off 3;fun 4 4;"};
    private static final int[] PLACES = {8, 12, 11, 13, 0, 44};

    private static FrameWalks richWithoutTape() {
        FrameWalks x = Edges.RICH.get();
        x.end(0);
        return x;
    }

    private static void textWithFault(Edges e) {
        e.promise(4, "-10 less the place of its FAULT: that which was told stays.");
        for (int j = 0; j < REFUSED.length; j++) {
            String text = REFUSED[j];
            e.refusedBut(java.util.Set.of("fault()"), -10 - PLACES[j], EdgesOfText::richWithoutTape,
                x -> Checks.tell(x, text));
            FrameWalks x = richWithoutTape();
            Checks.tell(x, text);
            e.is(j + 1, x.fault());
            e.is(0, x.count(1));
        }
    }

    private static void textTaken(Edges e) {
        e.terms("A text that is taken tells all of this, in place of what there was;");
        FrameWalks x = Edges.RICH.get();
        e.is(2, x.text());
        e.is(1, x.rule(0));
        e.is(1, x.rule(1));
        e.is(0, x.rule(2));
        e.is(0, x.rule(3));
        e.is(1, x.routine(0, 0));
        e.is(2, x.routine(0, 1));
        e.is(7, x.op(0, 2));
        e.all(BAD, x.routine(1, 0), x.op(1, 0), x.landing(0, 0), x.call(0, 0));
        e.all(NONE, x.whose(10), x.whose(30));
        e.is(0, x.text());
        e.is(0, x.rule(0) + x.rule(1) + x.rule(7));
    }

    private static void textLeavesNumbers(Edges e) {
        e.terms("REGISTERS and WORDS stay; there was no WALK; IMAGES are gone.");
        FrameWalks x = Edges.RICH.get();
        x.keep(1);
        e.is(2, x.count(0));
        int registers = x.count(3);
        int words = x.count(4);
        e.is(2, x.text());
        e.is(registers, x.count(3));
        e.is(words, x.count(4));
        e.is(41, x.get(Edges.A));
        e.is(42, x.peek(40));
        e.all(NONE, x.rule(4), x.rule(5), x.rule(6));
        e.all(BAD, x.frame(0, 0), x.came(0, 0));
        e.all(STATE, x.caught(1, 0), x.cleaned(1, 0));
        e.is(0, x.count(0));
        e.all(STATE, x.back(0), x.back(1));
        e.is(0, x.keep(0));
        e.is(3, x.count(2));
        e.is(3, x.torn());
    }

    private static void faultOfLatest(Edges e) {
        e.promise(5, "The FAULT of the latest text(); 0.");
        FrameWalks x = new FrameWalks();
        e.is(0, x.fault());
        for (int j = 0; j < REFUSED.length; j++) {
            Checks.tell(x, REFUSED[j]);
            e.is(j + 1, x.fault());
            e.is(j + 1, x.fault());
        }
        x.feed(128);
        x.end(-1);
        x.keep(0);
        x.back(0);
        e.is(6, x.fault());
        x.text();
        e.is(0, x.fault());
    }

    private static void tokens(Edges e) {
        e.terms("TOKENS, each as long as may be, blanks (32) between: NAMES (a .. z), NUMBERS (1 to 3 figures), one ; .");
        for (int c = 0; c < 128; c++) {
            byteAlone(e, c);
            byteBehindName(e, c);
            byteBehindNumber(e, c);
        }
        e.taken(2, "   fun   1   2   ;   mark   ;   ");
        e.taken(3, "fun1 2;base a3;save p4;");
        e.taken(1, "fun 000 009;");
        e.taken(1, "fun 0 999;");
        e.fault(1, 4, "fun 0000 1;");
        e.fault(1, 6, "fun 1 1000;");
        e.fault(2, 5, "fun12;");
        e.fault(2, 8, "fun 1 2;basea 1;");
        e.fault(2, 8, "fun 1 2;mark mark;".replace("k m", "km"));
        e.fault(2, 8, "fun 1 2;;");
        e.fault(2, 9, "fun 1 2; ;");
        e.fault(2, 2, "  f un 1 2;");
        e.fault(2, 8, "fun 1 2 3;");
    }

    private static boolean isLetter(int c) {
        return c >= 'a' && c <= 'z';
    }

    private static boolean isFigure(int c) {
        return c >= '0' && c <= '9';
    }

    private static void byteAlone(Edges e, int c) {
        String text = Character.toString(c);
        if (c == ' ') {
            e.taken(0, text);
        } else {
            e.fault(isLetter(c) || isFigure(c) || c == ';' ? 2 : 1, 0, text);
        }
    }

    private static void byteBehindName(Edges e, int c) {
        String text = "fun 8 9;mark" + Character.toString(c) + ";";
        if (c == ' ') {
            e.taken(2, text);
        } else if (isLetter(c)) {
            e.fault(2, 8, text);
        } else if (c == ';') {
            e.fault(2, 13, text);
        } else {
            e.fault(isFigure(c) ? 2 : 1, 12, text);
        }
    }

    private static void byteBehindNumber(Edges e, int c) {
        String text = "fun 1 2" + Character.toString(c) + ";";
        if (c == ' ' || isFigure(c)) {
            FrameWalks x = new FrameWalks();
            e.is(1, Checks.tell(x, text));
            e.is(c == ' ' ? 2 : 20 + c - '0', x.routine(0, 1));
        } else if (c == ';') {
            e.fault(2, 8, text);
        } else {
            e.fault(isLetter(c) ? 2 : 1, 7, text);
        }
    }

    private static void lines(Edges e) {
        e.terms("text: { line } line: fun N N ; | sig N N ; | go N ; | base R N ; | off N ; | save R N ; | keep R ; | in R R ;"
            + " | mark ; | reset ; | land N N N N ; | call N N ; R: a .. d | s | p");
        e.taken(0, "");
        String ahead = "fun 8 9; ";
        for (String line : new String[] {"fun 1 2 ;", "sig 1 2 ;", "go 3 ;", "base a 3 ;", "off 3 ;", "save a 3 ;", "keep a ;",
            "in a b ;", "mark ;", "reset ;", "land 1 2 3 4 ;", "call 1 2 ;"}) {
            e.taken(2, ahead + line);
            e.taken(3, ahead + line + "off 1;");
            String[] tokens = line.split(" ");
            String sofar = ahead;
            for (int j = 0; j < tokens.length; j++) {
                if (j > 0) {
                    e.fault(2, sofar.length(), sofar);
                    e.fault(2, sofar.length() - 1, sofar.substring(0, sofar.length() - 1));
                }
                for (String other : othersThan(tokens[j], j)) {
                    e.fault(2, sofar.length(), sofar + other + " " + line);
                }
                sofar = sofar + tokens[j] + " ";
            }
        }
        for (String r : new String[] {"a", "b", "c", "d", "s"}) {
            e.taken(2, "fun 8 9;base " + r + " 1;");
        }
        e.taken(2, "fun 8 9;keep p;");
    }

    /** TOKENS that can not stand where one of a line stands. */
    private static String[] othersThan(String token, int j) {
        if (j == 0) {
            return new String[] {"7", ";", "a", "zz", "lands"};
        }
        if (token.equals(";")) {
            return new String[] {"7", "a", "mark"};
        }
        boolean isNumber = isFigure(token.charAt(0));
        return isNumber ? new String[] {"a", ";", "mark"} : new String[] {"7", ";", "e", "o", "q", "r", "t", "z", "ab", "aa"};
    }

    private static void routinesTold(Edges e) {
        e.terms("fun, sig: a ROUTINE more (sig: a SIGNAL): FROM, TO.");
        FrameWalks x = Checks.telling("fun 3 4;sig 0 0;fun 999 999;sig 100 200;");
        int[][] due = {{3, 4, 0}, {0, 0, 1}, {999, 999, 0}, {100, 200, 1}};
        e.is(4, x.rule(0));
        for (int r = 0; r < 4; r++) {
            for (int what = 0; what < 3; what++) {
                e.is(due[r][what], x.routine(r, what));
            }
        }
    }

    private static void opsAndLandingsTold(Edges e) {
        e.terms("go .. reset: an OP more, land: a LANDING more of the latest ROUTINE: from, to, KIND (0 to 10), where.");
        FrameWalks x = Checks.telling("fun 3 4;mark;land 0 0 0 0;call 1 2;go 1;sig 7 8;land 1 999 10 999;reset;");
        e.is(3, x.rule(1));
        e.is(0, x.op(0, 3));
        e.is(0, x.op(1, 3));
        e.is(1, x.op(2, 3));
        e.is(2, x.rule(2));
        int[][] due = {{0, 0, 0, 0, 0}, {1, 999, 10, 999, 1}};
        for (int i = 0; i < 2; i++) {
            for (int what = 0; what < 5; what++) {
                e.is(due[i][what], x.landing(i, what));
            }
        }
        e.fault(3, 17, "fun 3 4;land 1 1 11 1;");
        e.fault(3, 17, "fun 3 4;land 1 1 999 1;");
    }

    private static void callsTold(Edges e) {
        e.terms("call: a CALL more: at, to.");
        FrameWalks x = Checks.telling("call 0 999;call 999 0;call 999 999;");
        e.is(3, x.rule(3));
        e.is(0, x.rule(0));
        int[][] due = {{0, 999, 0}, {999, 0, 1}, {999, 999, 2}};
        for (int i = 0; i < 3; i++) {
            for (int what = 0; what < 3; what++) {
                e.is(due[i][what], x.call(i, what));
            }
        }
    }

    private static void smallNumbers(Edges e) {
        e.terms("N of go, base, off, save 0 to 99.");
        for (String line : new String[] {"go ", "base a ", "off ", "save a "}) {
            for (String n : new String[] {"0", "1", "98", "99", "099"}) {
                FrameWalks x = new FrameWalks();
                e.is(2, Checks.tell(x, "fun 8 9;" + line + n + ";"));
                e.is(Integer.parseInt(n), x.op(0, 2));
            }
            e.fault(3, 8 + line.length(), "fun 8 9;" + line + "100;");
            e.fault(3, 8 + line.length(), "fun 8 9;" + line + "999;");
        }
    }
}
