import java.util.LinkedHashMap;
import java.util.Map;

/**
 * All that can be seen of an object, by calls of the face alone and in fewer than 300 of them. Looking changes it: SHEETS
 * are seen by reading them into WORDS, IMAGES by going back to them, THE TAPE by its text. So this comes last.
 */
final class Sight {
    private final Map<String, Integer> seen = new LinkedHashMap<>();
    private final FrameWalks x;

    private Sight(FrameWalks x) {
        this.x = x;
    }

    static Map<String, Integer> of(FrameWalks x) {
        Sight sight = new Sight(x);
        sight.see("fault()", x.fault());
        sight.see("torn()", x.torn());
        for (int what = 0; what < 5; what++) {
            sight.see("count " + what, x.count(what));
        }
        sight.tables("");
        sight.numbers("");
        sight.walk();
        for (int k = 0; k < 4; k++) {
            sight.sheet(k);
        }
        for (int k = 0; k < 2; k++) {
            sight.image(k);
        }
        sight.tape();
        return sight.seen;
    }

    private void see(String what, int answer) {
        seen.put(what, answer);
    }

    private void tables(String when) {
        for (int what = 0; what < 8; what++) {
            see(when + "rule " + what, x.rule(what));
        }
        for (int r = 0; r < x.rule(0); r++) {
            for (int what = 0; what < 6; what++) {
                see(when + "routine " + r + " " + what, x.routine(r, what));
            }
        }
        for (int i = 0; i < x.rule(1); i++) {
            for (int what = 0; what < 4; what++) {
                see(when + "op " + i + " " + what, x.op(i, what));
            }
        }
        for (int i = 0; i < x.rule(2); i++) {
            for (int what = 0; what < 5; what++) {
                see(when + "landing " + i + " " + what, x.landing(i, what));
            }
        }
        for (int i = 0; i < x.rule(3); i++) {
            for (int what = 0; what < 3; what++) {
                see(when + "call " + i + " " + what, x.call(i, what));
            }
        }
    }

    private void numbers(String when) {
        for (int v = 0; v < 6; v++) {
            see(when + "get " + v, x.get(v));
        }
        for (int i = 0; i < 48; i++) {
            see(when + "peek " + i, x.peek(i));
        }
    }

    private void walk() {
        int frames = x.rule(4);
        for (int k = 0; k < frames; k++) {
            for (int v = 0; v < 6; v++) {
                see("frame " + k + " " + v, x.frame(k, v));
            }
            for (int what = 0; what < 3; what++) {
                see("came " + k + " " + what, x.came(k, what));
            }
        }
    }

    private void sheet(int k) {
        for (int lane = 0; lane < 3; lane++) {
            int came = x.read(k, lane, 0, 40, 0);
            see("cells of sheet " + k + " as of lane " + lane, came);
            see("fault of sheet " + k + " as of lane " + lane, x.torn());
            for (int i = 0; i < came; i++) {
                see("cell " + i + " of sheet " + k, x.peek(i));
            }
        }
    }

    private void image(int k) {
        int answer = x.back(k);
        see("back " + k, answer);
        if (answer >= 0) {
            tables("image " + k + ": ");
            see("image " + k + ": registers", x.count(3));
            see("image " + k + ": words", x.count(4));
        }
    }

    private void tape() {
        see("text of the tape", x.text());
        see("fault of the tape", x.fault());
        tables("the tape: ");
    }
}
