/** What the tests share: answers compared with those that are due, texts fed letter by letter. */
final class Checks {
    static final int BAD = -1, STATE = -2, FULL = -3, NONE = -4;
    static final int A = 0, B = 1, C = 2, D = 3, S = 4, P = 5;

    private int made = 0;
    private int wrong = 0;

    void due(String call, int got, int want) {
        made++;
        if (got != want) {
            wrong++;
            System.out.println(call + " answered " + got + ", due is " + want);
        }
    }

    void dueBad(String call, int got) {
        due(call, got, BAD);
    }

    void dueTrue(String what, boolean holds) {
        due(what, holds ? 1 : 0, 1);
    }

    /** A text that has a FAULT at a place. */
    void dueFault(String text, int fault, int place) {
        FrameWalks x = new FrameWalks();
        due("text of <" + text + ">", tell(x, text), -10 - place);
        due("fault of <" + text + ">", x.fault(), fault);
    }

    void close(String name) {
        System.out.println(name + ": " + made + " answers, " + wrong + " not as due");
        if (wrong != 0 || made == 0) {
            System.exit(1);
        }
    }

    static void feed(FrameWalks x, String text) {
        for (int i = 0; i < text.length(); i++) {
            x.feed(text.charAt(i));
        }
    }

    static int tell(FrameWalks x, String text) {
        feed(x, text);
        return x.text();
    }

    static FrameWalks telling(String text) {
        FrameWalks x = new FrameWalks();
        int lines = tell(x, text);
        if (lines < 0) {
            throw new IllegalStateException("the test's own text has fault " + x.fault() + " at " + (-10 - lines));
        }
        return x;
    }

    static void pokeAll(FrameWalks x, int from, int... words) {
        for (int j = 0; j < words.length; j++) {
            x.poke(from + j, words[j]);
        }
    }

    static String times(String line, int n) {
        return line.repeat(n);
    }
}
