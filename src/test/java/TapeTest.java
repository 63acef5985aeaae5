/** Promises 1 to 5: a new object, feed, end, text, fault. */
public final class TapeTest {
    private static final Checks checks = new Checks();

    public static void main(String[] args) {
        newObject();
        feed();
        end();
        emptyText();
        textTaken();
        tokens();
        faultsOfTokens();
        faultsOfPlaces();
        faultsOfBounds();
        faultsOfRegisters();
        faultsOfMany();
        faultsOfShared();
        firstFaultMet();
        whatStays();
        tapeToItsLastByte();
        bytesCutOff();
        checks.close("TapeTest");
    }

    private static void newObject() {
        FrameWalks x = new FrameWalks();
        for (int what = 0; what < 4; what++) {
            checks.due("new rule " + what, x.rule(what), 0);
        }
        for (int what = 4; what < 7; what++) {
            checks.due("new rule " + what, x.rule(what), Checks.NONE);
        }
        checks.due("new rule 7", x.rule(7), 0);
        checks.due("new fault", x.fault(), 0);
        checks.due("new torn", x.torn(), 0);
        checks.due("new images", x.count(0), 0);
        checks.due("new tape", x.count(1), 0);
        checks.due("new sheet 0", x.count(2), Checks.NONE);
        checks.due("new registers", x.count(3), 0);
        checks.due("new words", x.count(4), 0);
        for (int k = 0; k < 4; k++) {
            checks.due("new sheet " + k, x.lay(k, 0, 0), -11);
        }
        checks.due("new back 0", x.back(0), Checks.STATE);
        checks.due("new back 1", x.back(1), Checks.STATE);
        checks.due("new caught", x.caught(1, 0), Checks.STATE);
        checks.due("new cleaned", x.cleaned(1, 0), Checks.STATE);
        checks.dueBad("new frame", x.frame(0, 0));
        checks.dueBad("new came", x.came(0, 0));
        checks.dueBad("new routine", x.routine(0, 0));
    }

    private static void feed() {
        FrameWalks x = new FrameWalks();
        checks.due("feed 0", x.feed(0), 1);
        checks.due("feed 127", x.feed(127), 2);
        checks.dueBad("feed 128", x.feed(128));
        checks.dueBad("feed -1", x.feed(-1));
        checks.dueBad("feed least", x.feed(Integer.MIN_VALUE));
        checks.due("bytes", x.count(1), 2);
        for (int n = 3; n <= 320; n++) {
            checks.due("feed " + n, x.feed(32), n);
        }
        checks.due("feed 321", x.feed(32), Checks.FULL);
        checks.dueBad("feed 128 of a full tape", x.feed(128));
        checks.due("bytes of a full tape", x.count(1), 320);
    }

    private static void end() {
        FrameWalks x = new FrameWalks();
        checks.due("end 0 of nothing", x.end(0), 0);
        checks.dueBad("end 1 of nothing", x.end(1));
        Checks.feed(x, "fun 1 2; nonsense");
        checks.dueBad("end -1", x.end(-1));
        checks.dueBad("end 18", x.end(18));
        checks.due("end 17", x.end(17), 17);
        checks.due("end 8", x.end(8), 17);
        checks.due("bytes", x.count(1), 8);
        checks.due("feed behind", x.feed(32), 9);
        checks.due("text", x.text(), 1);
        checks.due("to", x.routine(0, 1), 2);
    }

    private static void emptyText() {
        FrameWalks x = Checks.telling("fun 1 2; mark; land 1 1 1 1; call 1 1;");
        checks.due("empty text", x.text(), 0);
        for (int what = 0; what < 4; what++) {
            checks.due("rule behind an empty text " + what, x.rule(what), 0);
        }
        checks.due("blanks", Checks.tell(x, "   "), 0);
        checks.due("fault of blanks", x.fault(), 0);
    }

    private static void textTaken() {
        FrameWalks x = new FrameWalks();
        x.put(0, 7);
        x.poke(3, 8);
        checks.due("lines", Checks.tell(x, "fun 0 9;go 1;base a 2;off 3;save b 4;keep c;in d p;mark;reset;"
            + "land 0 1 2 3;call 4 5;sig 10 19;"), 12);
        checks.due("tape is empty", x.count(1), 0);
        checks.due("register stays", x.get(0), 7);
        checks.due("word stays", x.peek(3), 8);
        checks.due("routines", x.rule(0), 2);
        checks.due("ops", x.rule(1), 8);
        checks.due("landings", x.rule(2), 1);
        checks.due("calls", x.rule(3), 1);
        x.keep(0);
        x.walk(0);
        checks.due("another text", Checks.tell(x, "call 1 2;"), 1);
        checks.due("no routines now", x.rule(0), 0);
        checks.due("no walk now", x.rule(4), Checks.NONE);
        checks.due("no images now", x.count(0), 0);
        checks.due("no image 0", x.back(0), Checks.STATE);
    }

    private static void tokens() {
        FrameWalks x = new FrameWalks();
        checks.due("no blanks", Checks.tell(x, "fun1 2;save b3;ina b;"), -10 - 15);
        checks.due("fault of <ina>", x.fault(), 2);
        checks.due("no blanks", Checks.tell(x, "fun1 2;save b3;in a b;"), 3);
        checks.due("many blanks", Checks.tell(x, "  fun  000   999  ;  mark ;  "), 2);
        checks.due("to", x.routine(0, 1), 999);
        checks.due("number before a name", Checks.tell(x, "call 1 2;fun 3 4;"), 2);
        checks.due("three figures", Checks.tell(x, "fun 1 2;off 099;land 1 1 010 007;"), 3);
        checks.due("kind of 010", x.landing(0, 2), 10);
        checks.due("where of 007", x.landing(0, 3), 7);
    }

    private static void faultsOfTokens() {
        checks.dueFault("F", 1, 0);
        checks.dueFault("fun 1 2;\n", 1, 8);
        checks.dueFault("fun 1\t2;", 1, 5);
        checks.dueFault("fun 1,2;", 1, 5);
        checks.dueFault("fun 1000 2;", 1, 4);
        checks.dueFault("fun 1 0001;", 1, 6);
        checks.dueFault("fun 1 -2;", 1, 6);
        checks.dueFault("fun 1 2:", 1, 7);
        checks.dueFault("1234", 1, 0);
        checks.dueFault("{", 1, 0);
        checks.dueFault("`", 1, 0);
        checks.dueFault("fun 1 /;", 1, 6);
        checks.dueFault("fun 1 99999999999999999999;", 1, 6);
    }

    private static void faultsOfPlaces() {
        checks.dueFault("foo 1 2;", 2, 0);
        checks.dueFault("fu 1 2;", 2, 0);
        checks.dueFault("funn 1 2;", 2, 0);
        checks.dueFault("gun 1 2;", 2, 0);
        checks.dueFault("fuz 1 2;", 2, 0);
        checks.dueFault("z", 2, 0);
        checks.dueFault(" 12", 2, 1);
        checks.dueFault(";", 2, 0);
        checks.dueFault("fun 1 2;;", 2, 8);
        checks.dueFault("fun", 2, 3);
        checks.dueFault("fun 1 2", 2, 7);
        checks.dueFault("fun 1 2  ", 2, 9);
        checks.dueFault("fun 1;", 2, 5);
        checks.dueFault("fun a 2;", 2, 4);
        checks.dueFault("fun 1 2 3;", 2, 8);
        checks.dueFault("fun 1 2;base 1 2;", 2, 13);
        checks.dueFault("fun 1 2;base e 2;", 2, 13);
        checks.dueFault("fun 1 2;base ab 2;", 2, 13);
        checks.dueFault("fun 1 2;base a b;", 2, 15);
        checks.dueFault("fun 1 2;keep o;", 2, 13);
        checks.dueFault("fun 1 2;keep q;", 2, 13);
        checks.dueFault("fun 1 2;keep r;", 2, 13);
        checks.dueFault("fun 1 2;keep t;", 2, 13);
        checks.dueFault("fun 1 2;in a;", 2, 12);
        checks.dueFault("fun 1 2;in a 1;", 2, 13);
        checks.dueFault("fun 1 2;mark 1;", 2, 13);
        checks.dueFault("fun 1 2;reset a;", 2, 14);
        checks.dueFault("fun 1 2;land 1 2 3;", 2, 18);
        checks.dueFault("fun 1 2;land 1 2 3 4 5;", 2, 21);
        checks.dueFault("call 1;", 2, 6);
    }

    private static void faultsOfBounds() {
        checks.dueFault("fun 5 4;", 3, 6);
        checks.dueFault("sig 999 0;", 3, 8);
        checks.dueFault("fun 1 2;go 100;", 3, 11);
        checks.dueFault("fun 1 2;base a 100;", 3, 15);
        checks.dueFault("fun 1 2;off 999;", 3, 12);
        checks.dueFault("fun 1 2;save p 100;", 3, 15);
        checks.dueFault("fun 1 2;land 2 1 0 0;", 3, 15);
        checks.dueFault("fun 1 2;land 1 1 11 0;", 3, 17);
        FrameWalks x = Checks.telling("fun 5 5;go 99;base s 99;off 99;save p 99;land 999 999 10 999;call 999 0;");
        checks.due("lines at the bounds", x.rule(1) + x.rule(2) + x.rule(3), 6);
    }

    private static void faultsOfRegisters() {
        checks.dueFault("fun 1 2;base p 1;", 4, 13);
        checks.dueFault("fun 1 2;save s 1;", 4, 13);
        checks.dueFault("fun 1 2;keep s;", 4, 13);
        checks.dueFault("fun 1 2;in s a;", 4, 11);
        FrameWalks x = Checks.telling("fun 1 2;base s 1;save p 1;keep p;in p s;in a p;");
        checks.due("registers that may stand there", x.rule(1), 5);
    }

    private static void faultsOfMany() {
        checks.dueFault("go 1;", 5, 0);
        checks.dueFault(" land 1 1 1 1;", 5, 1);
        checks.dueFault("call 1 2;mark;", 5, 9);
        StringBuilder eight = new StringBuilder();
        for (int r = 0; r < 8; r++) {
            eight.append("fun ").append(r).append(' ').append(r).append(';');
        }
        checks.due("8 routines", Checks.tell(new FrameWalks(), eight.toString()), 8);
        checks.dueFault(eight + "fun 8 8;", 5, 64);
        checks.dueFault(eight + " sig", 5, 65);
        String ops = Checks.times("mark;", 20) + Checks.times("off 1;", 20);
        checks.due("40 ops", Checks.tell(new FrameWalks(), "fun 1 2;" + ops), 41);
        checks.dueFault("fun 1 2;" + ops + "fun 3 4; go 1;", 5, 237);
        String landings = Checks.times("land 1 1 1 1;", 16);
        checks.due("16 landings", Checks.tell(new FrameWalks(), "fun 1 2;" + landings), 17);
        checks.dueFault("fun 1 2;" + landings + "land", 5, 216);
        String calls = Checks.times("call 1 1;", 16);
        checks.due("16 calls", Checks.tell(new FrameWalks(), calls), 16);
        checks.dueFault(calls + "call x", 5, 144);
    }

    private static void faultsOfShared() {
        checks.dueFault("fun 1 5;fun 5 9;", 6, 16);
        checks.dueFault("fun 5 9;fun 1 5; ", 6, 17);
        checks.dueFault("fun 1 9;sig 3 4;", 6, 16);
        checks.dueFault("fun 3 4;fun 20 30;fun 1 9;", 6, 26);
        checks.dueFault("fun 3 3;fun 3 3;", 6, 16);
        checks.due("neighbours", Checks.tell(new FrameWalks(), "fun 5 9;fun 1 4;fun 10 10;"), 3);
    }

    private static void firstFaultMet() {
        checks.dueFault("fun 1 5;fun 5 9;go 100", 3, 19);
        checks.dueFault("fun 1 5;fun 5 9;go #", 1, 19);
        checks.dueFault("fun 1 2;base p #", 4, 13);
        checks.dueFault("go #", 5, 0);
        checks.dueFault("xyz #", 2, 0);
        checks.dueFault("fun a #", 2, 4);
        checks.dueFault("fun 9 8 #", 3, 6);
        checks.dueFault("fun 1 # 2", 1, 6);
    }

    private static void whatStays() {
        FrameWalks x = Checks.telling("fun 1 2;mark;land 1 1 1 1;call 1 1;");
        x.keep(1);
        x.put(Checks.P, 2);
        x.walk(0);
        checks.due("a fault", Checks.tell(x, "fun 7 9;fun 9 9;"), -26);
        checks.due("fault", x.fault(), 6);
        checks.due("tape is empty", x.count(1), 0);
        checks.due("routines stay", x.rule(0), 1);
        checks.due("from stays", x.routine(0, 0), 1);
        checks.due("ops stay", x.rule(1), 1);
        checks.due("landings stay", x.rule(2), 1);
        checks.due("calls stay", x.rule(3), 1);
        checks.due("the walk stays", x.frame(0, Checks.P), 2);
        checks.due("images stay", x.count(0), 1);
        checks.due("a text that is taken", x.text(), 0);
        checks.due("no fault", x.fault(), 0);
    }

    private static void tapeToItsLastByte() {
        String ahead = "fun 1 2;";
        checks.due("blanks to the last byte", Checks.tell(new FrameWalks(), ahead + Checks.times(" ", 312)), 1);
        checks.due("a line to the last byte", Checks.tell(new FrameWalks(), ahead + Checks.times(" ", 307) + "mark;"), 2);
        checks.dueFault(ahead + Checks.times("x", 312), 2, 8);
        checks.dueFault("fun " + Checks.times("1", 316), 1, 4);
        checks.dueFault(Checks.times(" ", 313) + "fun 1 2", 2, 320);
    }

    /** What end() cut off is no more there, though bytes of it stood behind. */
    private static void bytesCutOff() {
        String[] cut = {"fun 1 2|345;", "fun 1 2|;", "mar|k;", "fun 1 2| ;"};
        int[] faults = {2, 2, 2, 2};
        int[] places = {7, 7, 0, 7};
        for (int j = 0; j < cut.length; j++) {
            FrameWalks x = new FrameWalks();
            Checks.feed(x, cut[j].replace("|", ""));
            x.end(cut[j].indexOf('|'));
            checks.due("text of " + cut[j], x.text(), -10 - places[j]);
            checks.due("fault of " + cut[j], x.fault(), faults[j]);
        }
        FrameWalks blanks = new FrameWalks();
        Checks.feed(blanks, "fun 1 2    ");
        blanks.end(9);
        checks.due("the length, not what was cut off", blanks.text(), -19);
    }
}
