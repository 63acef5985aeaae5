import java.util.ArrayList;
import java.util.Arrays;
import java.util.Comparator;
import java.util.List;
import java.util.regex.Matcher;
import java.util.regex.Pattern;

/**
 * The document a second time, written with the Java library and for no speed: records in lists, texts cut by patterns,
 * sheets that are true arrays whose faults the machine does find. RandomTest compares the class with it.
 */
final class Model {
    private static final int BAD = -1, STATE = -2, FULL = -3, NONE = -4;
    private static final String LETTERS = "abcdsp";
    private static final List<String> OPS = List.of("go", "base", "off", "save", "keep", "in", "mark", "reset");

    private record Routine(int from, int to, boolean signal) {
        boolean has(int address) {
            return from <= address && address <= to;
        }
    }

    private record Op(int kind, int register, int n, int routine) {}

    private record Landing(int from, int to, int kind, int where, int routine) {}

    private record Call(int at, int to, int which) {}

    private record Frame(int[] registers, int routine, int looked, int way) {}

    private record Guess(int word, int score) {}

    private static final class Fault extends Exception {
        private static final long serialVersionUID = 1L;
        final int what;
        final int place;

        Fault(int what, int place) {
            this.what = what;
            this.place = place;
        }
    }

    private static final class Store {
        List<Routine> routines = new ArrayList<>();
        List<Op> ops = new ArrayList<>();
        List<Landing> landings = new ArrayList<>();
        List<Call> calls = new ArrayList<>();
        int[] registers = new int[6];
        int[] words = new int[48];

        Store copy() {
            Store other = new Store();
            other.routines.addAll(routines);
            other.ops.addAll(ops);
            other.landings.addAll(landings);
            other.calls.addAll(calls);
            other.registers = registers.clone();
            other.words = words.clone();
            return other;
        }
    }

    private static final class Row {
        int base = 4;
        int off = 1;
        int[][] rules = {{0, NONE}, {0, NONE}, {0, NONE}, {0, NONE}, {0, NONE}, {1, 1}};

        Row copy() {
            Row other = new Row();
            other.base = base;
            other.off = off;
            for (int v = 0; v < 6; v++) {
                other.rules[v] = rules[v].clone();
            }
            return other;
        }
    }

    private final StringBuilder tape = new StringBuilder();
    private int latestFault = 0;
    private Store store = new Store();
    private final Store[] images = new Store[2];
    private List<Frame> frames = null;
    private int ended = 0;
    private final Object[] sheets = new Object[4];
    private int latestTorn = 0;

    private static boolean in(int x, int low, int high) {
        return low <= x && x <= high;
    }

    int feed(int c) {
        if (!in(c, 0, 127)) return BAD;
        if (tape.length() == 320) return FULL;
        return tape.append((char) c).length();
    }

    int end(int n) {
        int had = tape.length();
        if (!in(n, 0, had)) return BAD;
        tape.setLength(n);
        return had;
    }

    int text() {
        String all = tape.toString();
        tape.setLength(0);
        latestFault = 0;
        try {
            Store told = new Store();
            int lines = new Reader(all, told).lines();
            told.registers = store.registers;
            told.words = store.words;
            store = told;
            frames = null;
            Arrays.fill(images, null);
            return lines;
        } catch (Fault e) {
            latestFault = e.what;
            return -10 - e.place;
        }
    }

    int fault() {
        return latestFault;
    }

    private static final class Reader {
        private static final Pattern TOKEN = Pattern.compile(" *([a-z]+|[0-9]+|;|$|(?s:.))");
        private final String all;
        private final Store told;
        private int place = 0;
        private int from = 0;

        Reader(String all, Store told) {
            this.all = all;
            this.told = told;
        }

        private String token() throws Fault {
            Matcher m = TOKEN.matcher(all).region(place, all.length());
            if (!m.lookingAt()) throw new IllegalStateException("no token at " + place);
            place = m.end();
            from = m.start(1);
            String token = m.group(1);
            boolean fits = token.isEmpty() || token.equals(";") || token.matches("[a-z]+|[0-9]{1,3}");
            if (!fits) throw new Fault(1, from);
            return token;
        }

        private int number(int low, int high) throws Fault {
            String token = token();
            if (!token.matches("[0-9]+")) throw new Fault(2, from);
            int n = Integer.parseInt(token);
            if (!in(n, low, high)) throw new Fault(3, from);
            return n;
        }

        private int register(String not) throws Fault {
            String token = token();
            if (token.length() != 1 || !LETTERS.contains(token)) throw new Fault(2, from);
            if (token.equals(not)) throw new Fault(4, from);
            return LETTERS.indexOf(token);
        }

        private void oneMore(boolean fits) throws Fault {
            if (!fits) throw new Fault(5, from);
        }

        private void op(String name, int kind) throws Fault {
            oneMore(told.ops.size() < 40 && !told.routines.isEmpty());
            int r = NONE;
            int n = NONE;
            if (name.equals("base")) r = register("p");
            if (List.of("save", "keep", "in").contains(name)) r = register("s");
            if (name.equals("in")) n = register("");
            if (List.of("go", "base", "off", "save").contains(name)) n = number(0, 99);
            told.ops.add(new Op(kind, r, n, told.routines.size() - 1));
        }

        int lines() throws Fault {
            int lines = 0;
            for (String name = token(); !name.isEmpty(); name = token()) {
                if (name.equals("fun") || name.equals("sig")) {
                    oneMore(told.routines.size() < 8);
                    int low = number(0, 999);
                    told.routines.add(new Routine(low, number(low, 999), name.equals("sig")));
                } else if (name.equals("land")) {
                    oneMore(told.landings.size() < 16 && !told.routines.isEmpty());
                    int low = number(0, 999);
                    int high = number(low, 999);
                    int kind = number(0, 10);
                    told.landings.add(new Landing(low, high, kind, number(0, 999), told.routines.size() - 1));
                } else if (name.equals("call")) {
                    oneMore(told.calls.size() < 16);
                    int at = number(0, 999);
                    told.calls.add(new Call(at, number(0, 999), told.calls.size()));
                } else if (OPS.contains(name)) {
                    op(name, OPS.indexOf(name));
                } else {
                    throw new Fault(2, from);
                }
                if (!token().equals(";")) throw new Fault(2, from);
                lines++;
            }
            for (int address = 0; address < 1000; address++) {
                int at = address;
                if (told.routines.stream().filter(r -> r.has(at)).count() > 1) throw new Fault(6, all.length());
            }
            return lines;
        }
    }

    int rule(int what) {
        if (!in(what, 0, 7)) return BAD;
        if (what == 0) return store.routines.size();
        if (what == 1) return store.ops.size();
        if (what == 2) return store.landings.size();
        if (what == 3) return store.calls.size();
        if (what == 7) {
            int many = 0;
            for (int address = 0; address < 1000; address++) {
                if (whose(address) >= 0) many++;
            }
            return many;
        }
        if (frames == null) return NONE;
        if (what == 4) return frames.size();
        return what == 5 ? ended : (int) frames.stream().filter(f -> f.way == 2).count();
    }

    int routine(int r, int what) {
        if (!in(r, 0, store.routines.size() - 1) || !in(what, 0, 5)) return BAD;
        Routine one = store.routines.get(r);
        return switch (what) {
            case 0 -> one.from;
            case 1 -> one.to;
            case 2 -> one.signal ? 1 : 0;
            case 3 -> (int) store.ops.stream().filter(o -> o.routine == r).count();
            case 4 -> (int) store.landings.stream().filter(l -> l.routine == r).count();
            default -> (int) store.routines.stream().filter(o -> o.from < one.from).count();
        };
    }

    int op(int i, int what) {
        if (!in(i, 0, store.ops.size() - 1) || !in(what, 0, 3)) return BAD;
        Op one = store.ops.get(i);
        return new int[] {one.kind, one.register, one.n, one.routine}[what];
    }

    int landing(int i, int what) {
        if (!in(i, 0, store.landings.size() - 1) || !in(what, 0, 4)) return BAD;
        Landing one = store.landings.get(i);
        return new int[] {one.from, one.to, one.kind, one.where, one.routine}[what];
    }

    int call(int i, int what) {
        if (!in(i, 0, store.calls.size() - 1) || !in(what, 0, 2)) return BAD;
        List<Call> sorted = new ArrayList<>(store.calls);
        sorted.sort(Comparator.comparingInt(Call::at));
        Call one = sorted.get(i);
        return new int[] {one.at, one.to, one.which}[what];
    }

    int whose(int address) {
        for (Routine one : store.routines) {
            if (one.has(address)) return store.routines.indexOf(one);
        }
        return NONE;
    }

    private Row rowOf(int r, int address, List<Row> aside) {
        Row row = new Row();
        int place = store.routines.get(r).from;
        for (Op op : store.ops) {
            if (op.routine != r) continue;
            switch (OPS.get(op.kind)) {
                case "go" -> place += op.n;
                case "base" -> {
                    row.base = op.register;
                    row.off = op.n;
                }
                case "off" -> row.off = op.n;
                case "save" -> row.rules[op.register] = new int[] {1, op.n};
                case "keep" -> row.rules[op.register] = new int[] {0, NONE};
                case "in" -> row.rules[op.register] = new int[] {2, op.n};
                case "mark" -> {
                    if (aside.size() < 3) aside.add(row.copy());
                }
                default -> row = aside.isEmpty() ? new Row() : aside.remove(aside.size() - 1);
            }
            if (place > address) break;
        }
        return row;
    }

    int row(int address, int what) {
        if (!in(what, 0, 2)) return BAD;
        if (whose(address) < 0) return NONE;
        List<Row> aside = new ArrayList<>();
        Row row = rowOf(whose(address), address, aside);
        return new int[] {row.base, row.off, aside.size()}[what];
    }

    int ruleOf(int address, int v, int what) {
        if (!in(v, 0, 5) || v == 4 || !in(what, 0, 1)) return BAD;
        if (whose(address) < 0) return NONE;
        return rowOf(whose(address), address, new ArrayList<>()).rules[v][what];
    }

    int put(int v, int x) {
        if (!in(v, 0, 5) || !in(x, 0, 9999)) return BAD;
        int was = store.registers[v];
        store.registers[v] = x;
        return was;
    }

    int poke(int i, int x) {
        if (!in(i, 0, 47) || !in(x, 0, 9999)) return BAD;
        int was = store.words[i];
        store.words[i] = x;
        return was;
    }

    int get(int v) {
        return in(v, 0, 5) ? store.registers[v] : BAD;
    }

    int peek(int i) {
        return in(i, 0, 47) ? store.words[i] : BAD;
    }

    private Frame frameOf(int[] registers, boolean asItIs, int way) {
        int looked = asItIs ? registers[5] : registers[5] - 1;
        return new Frame(registers, whose(looked), looked, way);
    }

    /** The FRAME that a ROW tells; null, with ended as it would be. */
    private Frame nextByRow(Frame last) {
        int[] r = last.registers;
        ended = 0;
        if (r[5] == 0) return null;
        ended = 1;
        if (last.routine == NONE) return null;
        Row row = rowOf(last.routine, last.looked, new ArrayList<>());
        int top = r[row.base] + row.off;
        ended = 3;
        if (top <= r[4]) return null;
        ended = 2;
        int[] next = r.clone();
        for (int v = 0; v < 6; v++) {
            if (row.rules[v][0] == 2) next[v] = r[row.rules[v][1]];
            if (row.rules[v][0] == 1) {
                int word = top - row.rules[v][1];
                if (!in(word, 0, 47)) return null;
                next[v] = store.words[word];
            }
        }
        next[4] = top;
        return frameOf(next, store.routines.get(last.routine).signal, 1);
    }

    private List<Guess> guessesFrom(int s, int routine) {
        List<Guess> guesses = new ArrayList<>();
        for (int word = s; word < s + 16 && word <= 47; word++) {
            int at = store.words[word] - 1;
            if (whose(at) == NONE) continue;
            boolean called = store.calls.stream().anyMatch(c -> c.at == at);
            boolean leads = store.calls.stream().anyMatch(c -> c.at == at && routine != NONE && whose(c.to) == routine);
            guesses.add(new Guess(word, 1 + (called ? 2 : 0) + (leads ? 4 : 0)));
        }
        guesses.sort(Comparator.comparingInt(g -> -g.score));
        return guesses;
    }

    int walk(int guesses) {
        if (!in(guesses, 0, 1)) return BAD;
        frames = new ArrayList<>();
        for (Frame next = frameOf(store.registers.clone(), true, 0); next != null;) {
            if (frames.size() == 20) {
                ended = 4;
                break;
            }
            frames.add(next);
            Frame last = next;
            next = nextByRow(last);
            if (next == null && guesses == 1 && ended != 0) {
                List<Guess> found = guessesFrom(last.registers[4], last.routine);
                if (!found.isEmpty()) {
                    int[] registers = last.registers.clone();
                    registers[4] = found.get(0).word + 1;
                    registers[5] = store.words[found.get(0).word];
                    next = frameOf(registers, false, 2);
                }
            }
        }
        return frames.size();
    }

    int frame(int k, int v) {
        if (frames == null || !in(k, 0, frames.size() - 1) || !in(v, 0, 5)) return BAD;
        return frames.get(k).registers[v];
    }

    int came(int k, int what) {
        if (frames == null || !in(k, 0, frames.size() - 1) || !in(what, 0, 2)) return BAD;
        Frame one = frames.get(k);
        return new int[] {one.routine, one.looked, one.way}[what];
    }

    int guess(int s, int r, int i, int what) {
        if (!in(s, 0, 47) || i < 0 || !in(what, 0, 1)) return BAD;
        if (r != NONE && !in(r, 0, store.routines.size() - 1)) return BAD;
        List<Guess> found = guessesFrom(s, r);
        if (i >= found.size()) return NONE;
        return what == 0 ? found.get(i).word : found.get(i).score;
    }

    private List<Integer> landingsOf(Frame frame, int... kinds) {
        List<Integer> found = new ArrayList<>();
        for (int l = 0; l < store.landings.size(); l++) {
            Landing one = store.landings.get(l);
            boolean kind = Arrays.stream(kinds).anyMatch(k -> k == one.kind);
            if (kind && one.routine == frame.routine && in(frame.looked, one.from, one.to)) found.add(l);
        }
        return found;
    }

    int caught(int kind, int what) {
        if (!in(kind, 1, 9) || !in(what, 0, 1)) return BAD;
        if (frames == null) return STATE;
        for (int k = 0; k < frames.size(); k++) {
            List<Integer> found = landingsOf(frames.get(k), kind, 10);
            if (!found.isEmpty()) return what == 0 ? k : found.get(0);
        }
        return NONE;
    }

    int cleaned(int kind, int i) {
        if (!in(kind, 1, 9) || i < 0) return BAD;
        if (frames == null) return STATE;
        List<Integer> found = new ArrayList<>();
        for (int k = 0; k < caught(kind, 0); k++) {
            for (int l : landingsOf(frames.get(k), 0)) found.add(100 * k + l);
        }
        return i < found.size() ? found.get(i) : NONE;
    }

    int move(int r, int what, int address) {
        if (!in(r, 0, store.routines.size() - 1) || !in(what, 0, 1) || !in(address, 0, 999)) return BAD;
        Routine old = store.routines.get(r);
        Routine moved = new Routine(what == 0 ? address : old.from, what == 1 ? address : old.to, old.signal);
        if (moved.from > moved.to) return BAD;
        for (int at = moved.from; at <= moved.to; at++) {
            if (whose(at) != NONE && whose(at) != r) return STATE;
        }
        store.routines.set(r, moved);
        return what == 0 ? old.from : old.to;
    }

    int alter(int i, int n) {
        if (!in(i, 0, store.ops.size() - 1)) return BAD;
        Op old = store.ops.get(i);
        int most = List.of(99, 99, 99, 99, -1, 5, -1, -1).get(old.kind);
        if (!in(n, 0, most)) return BAD;
        store.ops.set(i, new Op(old.kind, old.register, n, old.routine));
        return old.n;
    }

    int keep(int k) {
        if (!in(k, 0, 1)) return BAD;
        int was = images[k] == null ? 0 : 1;
        images[k] = store.copy();
        return was;
    }

    int back(int k) {
        if (!in(k, 0, 1)) return BAD;
        if (images[k] == null) return STATE;
        store = images[k].copy();
        frames = null;
        return store.routines.size();
    }

    int sheet(int k, int lane, int n) {
        if (!in(k, 0, 3) || !in(lane, 0, 2) || n > 40) return BAD;
        try {
            sheets[k] = lane == 0 ? new byte[n] : lane == 1 ? (Object) new short[n] : new int[n];
            return 1;
        } catch (NegativeArraySizeException e) {
            return -14;
        }
    }

    int lay(int k, int i, int v) {
        if (!in(k, 0, 3)) return BAD;
        try {
            if (sheets[k] instanceof byte[] bytes) bytes[i] = (byte) v;
            else if (sheets[k] instanceof short[] shorts) shorts[i] = (short) v;
            else ((int[]) sheets[k])[i] = v;
            return 1;
        } catch (NullPointerException e) {
            return -11;
        } catch (ArrayIndexOutOfBoundsException e) {
            return -12;
        }
    }

    int read(int k, int lane, int f, int n, int i) {
        if (!in(k, 0, 3) || !in(lane, 0, 2) || !in(n, 0, 40)) return BAD;
        int[] words = store.words.clone();
        int came = 0;
        int found = 0;
        try {
            for (; came < n; came++) {
                Object s = sheets[k];
                int x = lane == 0 ? ((byte[]) s)[f + came] : lane == 1 ? ((short[]) s)[f + came] : ((int[]) s)[f + came];
                if (poke(i + came, x) == BAD) {
                    store.words = words;
                    return -20 - came;
                }
            }
        } catch (NullPointerException e) {
            found = 1;
        } catch (ArrayIndexOutOfBoundsException e) {
            found = 2;
        } catch (ClassCastException e) {
            found = 3;
        }
        latestTorn = found;
        return came;
    }

    int torn() {
        return latestTorn;
    }

    int count(int what) {
        return switch (what) {
            case 0 -> (images[0] == null ? 0 : 1) + (images[1] == null ? 0 : 1);
            case 1 -> tape.length();
            case 2 -> sheets[0] == null ? NONE : java.lang.reflect.Array.getLength(sheets[0]);
            case 3 -> Arrays.stream(store.registers).sum();
            case 4 -> Arrays.stream(store.words).sum();
            default -> BAD;
        };
    }
}
