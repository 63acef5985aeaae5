/** How many of each there are at most, and the FAULTS 1 to 6 of a text with their places. */
final class EdgesOfFaults {
    private static final String[] OPS = {"go 1;", "base a 1;", "off 1;", "save a 1;", "keep a;", "in a b;", "mark;", "reset;"};

    static void run(Edges e) {
        routinesAtMost(e);
        addresses(e);
        signalOrNot(e);
        opsAtMost(e);
        landingsAtMost(e);
        callsAtMost(e);
        firstMet(e);
        noToken(e);
        wrongPlace(e);
        outOfBounds(e);
        wrongRegister(e);
        tooMany(e);
        aheadOfAll(e);
        shared(e);
    }

    private static String routines(int many) {
        StringBuilder text = new StringBuilder();
        for (int r = 0; r < many; r++) {
            text.append(r % 2 == 0 ? "fun " : "sig ").append(10 + r).append(' ').append(10 + r).append(';');
        }
        return text.toString();
    }

    private static void routinesAtMost(Edges e) {
        e.terms("ROUTINES 0 on (8 at most), by order,");
        FrameWalks x = Checks.telling(routines(8));
        e.is(8, x.rule(0));
        for (int r = 0; r < 8; r++) {
            e.is(10 + r, x.routine(r, 0));
            e.is(r, x.whose(10 + r));
        }
        e.is(Edges.BAD, x.routine(8, 0));
        e.taken(7, routines(7));
        e.fault(5, 80, routines(9));
    }

    private static void addresses(Edges e) {
        e.terms("each of ADDRESSES FROM to TO (0 to 999, FROM no more than TO, none in two)");
        e.taken(1, "fun 0 999;");
        e.taken(1, "fun 0 0;");
        e.taken(1, "fun 999 999;");
        e.fault(1, 6, "fun 0 1000;");
        e.taken(1, "fun 5 5;");
        e.fault(3, 6, "fun 5 4;");
        e.fault(3, 6, "sig 5 4;");
        e.fault(3, 6, "fun 1 0;");
        e.taken(2, "fun 0 5;sig 6 999;");
        e.taken(2, "fun 6 999;sig 0 5;");
        e.fault(6, 18, "fun 0 5;sig 5 999;");
    }

    private static void signalOrNot(Edges e) {
        e.terms("a SIGNAL, or not,");
        FrameWalks x = Checks.telling("sig 1 1;fun 2 2;");
        e.is(1, x.routine(0, 2));
        e.is(0, x.routine(1, 2));
    }

    private static void opsAtMost(Edges e) {
        e.terms("with OPS (40 at most in all),");
        String forty = "fun 1 1;" + "mark;".repeat(39) + "fun 2 2;off 7;";
        FrameWalks x = Checks.telling(forty);
        e.is(40, x.rule(1));
        e.is(7, x.op(39, 2));
        e.is(Edges.BAD, x.op(40, 0));
        e.is(39, x.routine(0, 3));
        e.is(1, x.routine(1, 3));
        e.fault(5, forty.length(), forty + "mark;");
        e.taken(44, forty + "land 1 1 1 1;call 1 1;");
    }

    private static void landingsAtMost(Edges e) {
        e.terms("LANDINGS (16 at most in all).");
        String sixteen = "fun 1 1;" + "land 1 1 1 1;".repeat(15) + "fun 2 2;land 1 1 1 7;";
        FrameWalks x = Checks.telling(sixteen);
        e.is(16, x.rule(2));
        e.is(7, x.landing(15, 3));
        e.is(Edges.BAD, x.landing(16, 0));
        e.is(15, x.routine(0, 4));
        e.is(1, x.routine(1, 4));
        e.fault(5, sixteen.length(), sixteen + "land 1 1 1 1;");
        e.taken(20, sixteen + "mark;call 1 1;");
    }

    private static void callsAtMost(Edges e) {
        e.terms("CALLS (16 at most), by order: at an ADDRESS, to an ADDRESS.");
        String sixteen = "call 1 1;".repeat(15) + "call 0 999;";
        FrameWalks x = Checks.telling(sixteen);
        e.is(16, x.rule(3));
        e.is(15, x.call(0, 2));
        e.is(999, x.call(0, 1));
        e.is(14, x.call(15, 2));
        e.is(Edges.BAD, x.call(16, 0));
        e.fault(5, sixteen.length(), sixteen + "call 1 1;");
        e.taken(17, sixteen + "fun 1 1;");
        e.fault(1, 5, "call 1000 1;");
        e.fault(1, 7, "call 1 1000;");
    }

    private static void firstMet(Edges e) {
        e.terms("FAULTS, the first met as it is read (a TOKEN is read when the one before has been taken):");
        e.fault(2, 0, "zz ?");
        e.fault(2, 4, "fun a ?");
        e.fault(2, 8, "fun 1 2 3 ?");
        e.fault(1, 8, "fun 1 2 ? 3");
        e.fault(3, 6, "fun 2 1 ?");
        e.fault(3, 6, "fun 2 1");
        e.fault(3, 11, "fun 1 2;go 100 1000;");
        e.fault(3, 17, "fun 1 2;land 1 1 11 ?;");
        e.fault(4, 13, "fun 1 2;base p ?");
        e.fault(4, 13, "fun 1 2;base p 100;");
        e.fault(4, 11, "fun 1 2;in s q;");
        e.fault(2, 13, "fun 1 2;base q 100;");
        e.fault(5, 0, "go ?");
        e.fault(5, 0, "go 100;");
        e.fault(5, 0, "base p 1;");
        e.fault(5, 0, "land 2 1 11 ?");
        e.fault(5, 80, routines(8) + "fun 2 1;");
        e.fault(5, 80, routines(8) + "sig?");
        e.fault(5, 144, "call 1 1;".repeat(16) + "call");
        e.fault(3, 19, "fun 1 2;fun 2 3;go 100;");
        e.fault(2, 16, "fun 1 2;fun 2 3;zz");
        e.fault(1, 16, "fun 1 2;fun 2 3;?");
        e.fault(2, 4, "fun mark 1000;");
        e.fault(1, 8, "fun 1 2;?? zz");
    }

    private static void noToken(Edges e) {
        e.terms("1 no TOKEN, a NUMBER that is too long (its first byte).");
        for (String sign : new String[] {"\0", "\t", "\n", "!", "-", "/", ":", "<", "@", "A", "Z", "`", "{", "\u007f"}) {
            e.fault(1, 0, sign);
            e.fault(1, 9, "fun 1 2; " + sign);
            e.fault(1, 4, "fun " + sign + "1 2;");
        }
        e.taken(1, "fun 999 999;");
        e.fault(1, 4, "fun 0999 999;");
        e.fault(1, 8, "fun 999 9990;");
        e.fault(1, 5, "fun  1234567890123456789012 2;");
        e.fault(1, 0, "0000");
        e.fault(2, 0, "000");
        e.fault(1, 8, "fun 1 2;1234");
    }

    private static void wrongPlace(Edges e) {
        e.terms("2 a TOKEN that can not stand there (a NAME that begins no line, is no R; or the end: the length).");
        for (String name : new String[] {"f", "fu", "funn", "si", "sigs", "g", "gos", "bas", "bases", "of", "offs", "sav", "kee",
            "i", "inn", "mar", "marks", "rese", "resets", "lan", "lands", "cal", "calls", "a", "s", "p", "text", "zun"}) {
            e.fault(2, 8, "fun 8 9;" + name + " 1 2;");
        }
        for (String name : new String[] {"e", "o", "q", "r", "t", "z", "aa", "ap", "sp"}) {
            e.fault(2, 13, "fun 8 9;base " + name + " 1;");
            e.fault(2, 13, "fun 8 9;save " + name + " 1;");
            e.fault(2, 13, "fun 8 9;keep " + name + ";");
            e.fault(2, 11, "fun 8 9;in " + name + " a;");
            e.fault(2, 13, "fun 8 9;in a " + name + ";");
        }
        e.fault(2, 3, "fun");
        e.fault(2, 4, "fun ");
        e.fault(2, 7, "fun 1 2");
        e.fault(2, 320, "fun 1 2" + " ".repeat(313));
    }

    private static void outOfBounds(Edges e) {
        e.terms("3 a NUMBER out of its bounds (TO below FROM, a LANDING's to below its from, too).");
        e.taken(1, "fun 7 7;");
        e.fault(3, 6, "fun 7 6;");
        e.fault(3, 6, "sig 7 0;");
        e.fault(3, 8, "fun 999 998;");
        e.taken(2, "fun 1 1;land 7 7 0 0;");
        e.fault(3, 15, "fun 1 1;land 7 6 0 0;");
        e.fault(3, 17, "fun 1 1;land 999 0 0 0;");
        e.taken(2, "fun 1 1;land 7 8 10 6;");
        e.fault(3, 17, "fun 1 1;land 7 8 11 6;");
        e.taken(2, "fun 1 1;go 99;");
        e.fault(3, 11, "fun 1 1;go 100;");
        e.taken(1, "call 7 6;");
    }

    private static void wrongRegister(Edges e) {
        e.terms("4 base p, save s, keep s, in s (the R).");
        for (char r : "abcdsp".toCharArray()) {
            registerOf(e, "base " + r + " 1;", 13, r == 'p');
            registerOf(e, "save " + r + " 1;", 13, r == 's');
            registerOf(e, "keep " + r + ";", 13, r == 's');
            registerOf(e, "in " + r + " a;", 11, r == 's');
            registerOf(e, "in a " + r + ";", 13, false);
        }
    }

    private static void registerOf(Edges e, String line, int place, boolean isFault) {
        if (isFault) {
            e.fault(4, place, "fun 1 1;" + line);
        } else {
            e.taken(2, "fun 1 1;" + line);
        }
    }

    private static void tooMany(Edges e) {
        e.terms("5 the 9th ROUTINE, 41st OP, 17th LANDING, 17th CALL (its NAME);");
        e.taken(8, routines(8));
        e.fault(5, 80, routines(8) + "fun 900 901;");
        e.fault(5, 82, routines(8) + "  sig 900 901;");
        String ops = "fun 1 1;" + "go 1;".repeat(39);
        for (String op : OPS) {
            e.taken(41, ops + op);
            e.fault(5, ops.length() + 6, ops + "mark; " + op);
        }
        String landings = "fun 1 1;" + "land 1 1 1 1;".repeat(16);
        e.taken(17, landings);
        e.fault(5, 217, landings + " land 1 1 1 1;");
        String calls = "call 1 1;".repeat(16);
        e.taken(16, calls);
        e.fault(5, 145, calls + " call 1 1;");
    }

    private static void aheadOfAll(Edges e) {
        e.terms("an OP, a LANDING ahead of all ROUTINES (its NAME).");
        for (String op : OPS) {
            e.fault(5, 0, op + "fun 1 1;");
            e.fault(5, 10, " call 1 1;" + op);
            e.taken(2, "fun 1 1;" + op);
        }
        e.fault(5, 0, "land 1 1 1 1;");
        e.fault(5, 1, " land 1 1 1 1;fun 1 1;");
        e.taken(2, "sig 1 1;land 1 1 1 1;");
        e.taken(2, "call 1 1;fun 1 1;");
        FrameWalks x = Checks.telling("fun 1 1;");
        e.is(-10, Checks.tell(x, "go 1;"));
        e.is(5, x.fault());
    }

    private static void shared(Edges e) {
        e.terms("Behind all (the length): 6 two ROUTINES have an ADDRESS both.");
        e.fault(6, 16, "fun 3 5;fun 5 7;");
        e.fault(6, 16, "fun 5 7;fun 3 5;");
        e.fault(6, 16, "fun 3 7;sig 5 5;");
        e.fault(6, 16, "sig 5 5;fun 3 7;");
        e.fault(6, 16, "fun 5 5;fun 5 5;");
        e.fault(6, 20, "fun 5 5;fun 5 5;    ");
        e.fault(6, 24, "fun 5 5;fun 6 6;fun 5 5;");
        e.fault(6, 24, "fun 1 1;fun 6 6;fun 6 6;");
        e.fault(6, 76, "fun 0 999;" + routines(6) + "off 1;");
        e.taken(3, "fun 5 5;fun 6 6;fun 4 4;");
        e.taken(3, "fun 3 4;fun 7 8;fun 5 6;");
        e.taken(4, "fun 1 1;land 2 2 2 2;fun 2 2;land 1 2 1 1;");
    }
}
