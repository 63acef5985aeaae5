import java.util.Random;

/** Many runs of 512 calls, the same each time, each answer compared with Model's; nothing may be thrown. */
public final class RandomTest {
    private static final int RUNS = 6000;
    private static final int CALLS = 512;
    private static final int[] FAR = {-1, -4, -5, 8, 16, 40, 41, 48, 100, 320, 321, 999, 1000, 9999, 10000,
        Integer.MAX_VALUE, Integer.MIN_VALUE, Integer.MAX_VALUE - 3};
    private static final String[] NAMES = {"go", "base", "off", "save", "keep", "in", "mark", "reset", "fun", "sig", "land",
        "call"};

    private final Random random;
    private final FrameWalks x = new FrameWalks();
    private final Model model = new Model();
    private final StringBuilder log = new StringBuilder();
    private int calls = 0;
    private int wrong = 0;
    private boolean clean = true;

    private RandomTest(int seed) {
        random = new Random(seed);
    }

    public static void main(String[] args) {
        long made = 0;
        int wrong = 0;
        for (int seed = 0; seed < RUNS && wrong == 0; seed++) {
            RandomTest run = new RandomTest(seed);
            run.go();
            made += run.calls;
            wrong += run.wrong;
            if (run.wrong > 0) {
                System.out.println("run " + seed + ":\n" + run.log);
            }
        }
        System.out.println("RandomTest: " + made + " answers, " + wrong + " not as due");
        if (wrong != 0) {
            System.exit(1);
        }
    }

    private void due(String call, int got, int want) {
        calls++;
        log.append(call).append(" = ").append(got).append('\n');
        // What an object answers behind its 512th call is free.
        if (got != want && calls <= CALLS) {
            wrong++;
            log.append("  due is ").append(want).append('\n');
        }
    }

    private void go() {
        if (random.nextInt(4) > 0) {
            tell();
        }
        if (random.nextInt(3) > 0) {
            fillStack();
        }
        while (calls < CALLS && wrong == 0) {
            step(random.nextInt(40));
        }
    }

    private int upTo(int most) {
        return random.nextInt(12) == 0 ? FAR[random.nextInt(FAR.length)] : random.nextInt(most + 1);
    }

    private int address() {
        return random.nextInt(5) > 0 ? random.nextInt(31) : upTo(40);
    }

    private int number() {
        return random.nextInt(4) > 0 ? address() : upTo(9999);
    }

    private void feed(int c) {
        due("feed " + c, x.feed(c), model.feed(c));
    }

    private void feedAll(String text) {
        for (int i = 0; i < text.length(); i++) {
            feed(text.charAt(i));
        }
    }

    private String n(int most) {
        return Integer.toString(!clean && random.nextInt(20) == 0 ? random.nextInt(1200) : random.nextInt(most + 1));
    }

    private String r(String letters) {
        String from = !clean && random.nextInt(20) == 0 ? "abcdspqz" : letters;
        return Character.toString(from.charAt(random.nextInt(from.length())));
    }

    private String kindOfLanding() {
        return switch (random.nextInt(8)) {
            case 0, 1, 2 -> "0";
            case 3 -> "10";
            default -> n(4);
        };
    }

    private String line(int which) {
        String operands = switch (which) {
            case 0 -> " " + n(5);
            case 1 -> " " + r("abcds") + " " + n(9);
            case 2 -> " " + n(3);
            case 3 -> " " + r("abcdp") + " " + n(4);
            case 4 -> " " + r("abcdp");
            case 5 -> " " + r("abcdp") + " " + r("abcdsp");
            case 6, 7 -> "";
            case 10 -> " " + n(9) + " " + (9 + random.nextInt(25)) + " " + kindOfLanding() + " " + n(9);
            case 11 -> " " + n(30) + " " + n(30);
            default -> " " + n(40) + " " + n(60);
        };
        return NAMES[which] + operands + ";";
    }

    private String linesOf(int many) {
        StringBuilder lines = new StringBuilder();
        for (int j = 0; j < many; j++) {
            int which = random.nextInt(14);
            lines.append(line(which < 8 ? which : which < 11 ? 11 : 10));
        }
        return lines.toString();
    }

    private void tell() {
        StringBuilder text = new StringBuilder();
        clean = random.nextInt(3) > 0;
        int routines = 1 + random.nextInt(3);
        for (int j = 0; j < routines; j++) {
            text.append(random.nextInt(3) == 0 ? "sig " : "fun ").append(j * 10 + random.nextInt(3)).append(' ');
            text.append(j * 10 + 6 + random.nextInt(random.nextInt(12) == 0 ? 6 : 4)).append(';');
            text.append(linesOf(random.nextInt(7)));
        }
        if (!clean && random.nextInt(3) == 0) {
            text.append(line(random.nextInt(12)));
        }
        if (!clean && random.nextInt(3) == 0) {
            text.setCharAt(random.nextInt(text.length()), " ;019aspz~{".charAt(random.nextInt(11)));
        }
        if (!clean && random.nextInt(5) == 0) {
            text.setLength(random.nextInt(text.length()));
        }
        feedAll(text.toString());
        due("text of " + text, x.text(), model.text());
        due("fault", x.fault(), model.fault());
    }

    private void fillStack() {
        for (int i = 0; i < 48; i++) {
            int to = number();
            due("poke " + i + " " + to, x.poke(i, to), model.poke(i, to));
        }
        for (int v = 0; v < 6; v++) {
            int to = v == 5 ? address() : upTo(20);
            due("put " + v + " " + to, x.put(v, to), model.put(v, to));
        }
    }

    private void crowd() {
        String[] crowds = {"mark;", "call 1 2;", "land 1 2 3 4;", "go 1;"};
        String crowd = crowds[random.nextInt(crowds.length)];
        feedAll("fun 1 2;" + crowd.repeat(Math.min(random.nextInt(50), 300 / crowd.length())));
        due("text of a crowd", x.text(), model.text());
    }

    private void walkAround() {
        int g = random.nextInt(20) == 0 ? upTo(2) : random.nextInt(2);
        due("walk " + g, x.walk(g), model.walk(g));
        for (int what = 4; what < 7; what++) {
            due("rule " + what, x.rule(what), model.rule(what));
        }
        for (int j = 0; j < 4; j++) {
            frameOrCame(random.nextInt(6));
        }
        int kind = 1 + random.nextInt(4);
        due("caught " + kind + " 0", x.caught(kind, 0), model.caught(kind, 0));
        due("caught " + kind + " 1", x.caught(kind, 1), model.caught(kind, 1));
        due("cleaned " + kind + " 0", x.cleaned(kind, 0), model.cleaned(kind, 0));
        due("cleaned " + kind + " 1", x.cleaned(kind, 1), model.cleaned(kind, 1));
    }

    private void frameOrCame(int most) {
        int k = upTo(most);
        int v = upTo(6);
        due("frame " + k + " " + v, x.frame(k, v), model.frame(k, v));
        due("came " + k + " " + v, x.came(k, v), model.came(k, v));
    }

    private void step(int which) {
        int a = upTo(3);
        int b = upTo(6);
        int c = address();
        int d = upTo(10);
        switch (which) {
            case 0 -> feed(upTo(127));
            case 1 -> {
                int to = random.nextInt(2) == 0 ? 0 : upTo(20);
                due("end " + to, x.end(to), model.end(to));
            }
            case 2 -> {
                if (random.nextInt(4) == 0) {
                    due("end 0", x.end(0), model.end(0));
                    tell();
                }
            }
            case 3 -> {
                if (random.nextInt(20) == 0) crowd();
            }
            case 4 -> due("rule " + d, x.rule(d), model.rule(d));
            case 5 -> due("routine " + a + " " + b, x.routine(a, b), model.routine(a, b));
            case 6 -> due("op " + d + " " + a, x.op(d, a), model.op(d, a));
            case 7 -> due("landing " + a + " " + b, x.landing(a, b), model.landing(a, b));
            case 8 -> due("call " + a + " " + b, x.call(a, b), model.call(a, b));
            case 9 -> due("whose " + c, x.whose(c), model.whose(c));
            case 10 -> due("row " + c + " " + a, x.row(c, a), model.row(c, a));
            case 11, 12 -> due("ruleOf " + c + " " + b + " " + a % 2, x.ruleOf(c, b, a % 2), model.ruleOf(c, b, a % 2));
            case 13, 14 -> {
                int to = b == 5 ? c : upTo(20);
                due("put " + b + " " + to, x.put(b, to), model.put(b, to));
            }
            case 15 -> {
                int i = upTo(47);
                int to = number();
                due("poke " + i + " " + to, x.poke(i, to), model.poke(i, to));
            }
            case 16 -> due("get " + b, x.get(b), model.get(b));
            case 17 -> due("peek " + c, x.peek(c), model.peek(c));
            case 18, 19, 20 -> walkAround();
            case 21 -> frameOrCame(19);
            case 22, 23 -> {
                int s = upTo(47);
                int r = random.nextInt(3) == 0 ? -4 : a;
                for (int i = 0; i < 3; i++) {
                    due("guess " + s + " " + r + " " + i + " 0", x.guess(s, r, i, 0), model.guess(s, r, i, 0));
                    due("guess " + s + " " + r + " " + i + " 1", x.guess(s, r, i, 1), model.guess(s, r, i, 1));
                }
                due("guess what", x.guess(s, r, b, a), model.guess(s, r, b, a));
            }
            case 24, 25 -> due("caught " + d + " " + a, x.caught(d, a), model.caught(d, a));
            case 26, 27 -> due("cleaned " + d + " " + a, x.cleaned(d, a), model.cleaned(d, a));
            case 28 -> due("move " + a + " " + b % 3 + " " + c, x.move(a, b % 3, c), model.move(a, b % 3, c));
            case 29 -> {
                int to = upTo(random.nextInt(2) == 0 ? 6 : 100);
                due("alter " + d + " " + to, x.alter(d, to), model.alter(d, to));
            }
            case 30 -> due("keep " + a, x.keep(a), model.keep(a));
            case 31 -> due("back " + a, x.back(a), model.back(a));
            case 32 -> {
                int to = random.nextInt(3) == 0 ? upTo(41) : upTo(8);
                due("sheet " + a + " " + b % 4 + " " + to, x.sheet(a, b % 4, to), model.sheet(a, b % 4, to));
            }
            case 33, 34, 35 -> {
                int to = random.nextInt(5) == 0 ? random.nextInt() : number();
                due("lay " + a + " " + d + " " + to, x.lay(a, d, to), model.lay(a, d, to));
            }
            case 36, 37, 38 -> {
                int i = upTo(48);
                int f = upTo(3);
                due("read " + a + " " + b % 4 + " " + f + " " + c % 9 + " " + i, x.read(a, b % 4, f, c % 9, i),
                    model.read(a, b % 4, f, c % 9, i));
                due("torn", x.torn(), model.torn());
            }
            default -> due("count " + b, x.count(b), model.count(b));
        }
    }
}
