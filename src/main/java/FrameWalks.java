import java.util.Arrays;

/**
 * Stacks walked by tables of frames. The words in capitals are those of the document (DOC.md).
 *
 * <p>All rows are made in the constructor and used again, so that no later call makes an object.
 */
public final class FrameWalks {
    public static final int BAD = -1, STATE = -2, FULL = -3, NONE = -4;

    private static final int MOST_ROUTINES = 8;
    private static final int MOST_OPS = 40;
    private static final int MOST_LANDINGS = 16;
    private static final int MOST_CALLS = 16;
    private static final int MOST_FRAMES = 20;
    private static final int MOST_ASIDE = 3;
    private static final int MOST_GUESSES = 16;
    private static final int MOST_CELLS = 40;
    private static final int TAPE_BYTES = 320;
    private static final int REGISTERS = 6;
    private static final int WORDS = 48;
    private static final int IMAGES = 2;
    private static final int SHEETS = 4;
    private static final int LANES = 3;

    private static final int LAST_ADDRESS = 999;
    private static final int LAST_NUMBER = 9999;
    private static final int LAST_N = 99;
    private static final int LAST_FIGURES = 3;

    private static final int S = 4;
    private static final int P = 5;

    private static final int KIND_CLEANS = 0;
    private static final int KIND_LAST_THROWN = 9;
    private static final int KIND_ANY = 10;

    // Columns of the tables; those of OPS and LANDINGS are numbered as op() and landing() ask for them.
    private static final int FROM = 0, TO = 1, SIGNAL = 2, ROUTINE_WIDTH = 3;
    private static final int OP_KIND = 0, OP_REGISTER = 1, OP_N = 2, OP_ROUTINE = 3, OP_WIDTH = 4;
    private static final int LAND_FROM = 0, LAND_TO = 1, LAND_KIND = 2, LAND_ROUTINE = 4, LAND_WIDTH = 5;
    private static final int CALL_AT = 0, CALL_TO = 1, CALL_WIDTH = 2;

    // Lines of a text: those of OPS are numbered as the KINDS of OPS are.
    private static final int GO = 0, BASE = 1, OFF = 2, SAVE = 3, KEEP = 4, IN = 5, MARK = 6, RESET = 7;
    private static final int FUN = 8, SIG = 9, LAND = 10, CALL = 11, LINES = 12;

    private static final int RULE_SAME = 0, RULE_SAVED = 1, RULE_IN = 2;

    private static final int TOKEN_END = 0, TOKEN_BROKEN = 1, TOKEN_NAME = 2, TOKEN_NUMBER = 3, TOKEN_STOP = 4;

    private static final int FAULT_TOKEN = 1, FAULT_PLACE = 2, FAULT_BOUNDS = 3, FAULT_REGISTER = 4;
    private static final int FAULT_MANY = 5, FAULT_SHARED = 6;

    private static final int TORN_NULL = 1, TORN_INDEX = 2, TORN_CAST = 3, TORN_SIZE = 4;

    private static final int END_PLACE_0 = 0, END_NO_ROUTINE = 1, END_NO_WORD = 2, END_NOT_ABOVE = 3;
    private static final int END_FULL = 4, GOES_ON = 5;

    private static final int CAME_FIRST = 0, CAME_BY_ROW = 1, CAME_BY_GUESS = 2;

    // What an operand of a line must be.
    private static final int NOT_ANY = 0, ADDRESS = 1, ADDRESS_UP = 2, SMALL = 3, LANDING_KIND = 4;
    private static final int REGISTER = 5, REGISTER_NOT_P = 6, REGISTER_NOT_S = 7, MOST_OPERANDS = 4;

    private static final int[] OPERANDS = {
        SMALL, NOT_ANY, NOT_ANY, NOT_ANY, // go
        REGISTER_NOT_P, SMALL, NOT_ANY, NOT_ANY, // base
        SMALL, NOT_ANY, NOT_ANY, NOT_ANY, // off
        REGISTER_NOT_S, SMALL, NOT_ANY, NOT_ANY, // save
        REGISTER_NOT_S, NOT_ANY, NOT_ANY, NOT_ANY, // keep
        REGISTER_NOT_S, REGISTER, NOT_ANY, NOT_ANY, // in
        NOT_ANY, NOT_ANY, NOT_ANY, NOT_ANY, // mark
        NOT_ANY, NOT_ANY, NOT_ANY, NOT_ANY, // reset
        ADDRESS, ADDRESS_UP, NOT_ANY, NOT_ANY, // fun
        ADDRESS, ADDRESS_UP, NOT_ANY, NOT_ANY, // sig
        ADDRESS, ADDRESS_UP, LANDING_KIND, ADDRESS, // land
        ADDRESS, ADDRESS, NOT_ANY, NOT_ANY, // call
    };

    private final World now = new World();
    private final World draft = new World();
    private final World[] images = new World[IMAGES];
    private final boolean[] kept = new boolean[IMAGES];
    private final Tape tape = new Tape();
    private final Row ruled = new Row();
    private final Track track = new Track();
    private final Hunt hunt = new Hunt();
    private final Sheet[] sheets = new Sheet[SHEETS];
    private final int[] coming = new int[MOST_CELLS];
    private int tornBy = 0;

    public FrameWalks() {
        for (int k = 0; k < IMAGES; k++) {
            images[k] = new World();
        }
        for (int k = 0; k < SHEETS; k++) {
            sheets[k] = new Sheet();
        }
    }

    // ---- the text, what there is

    public int feed(int c) {
        if (c < 0 || c > 127) {
            return BAD;
        }
        if (tape.length >= TAPE_BYTES) {
            return FULL;
        }
        tape.bytes[tape.length] = c;
        tape.length++;
        return tape.length;
    }

    public int end(int n) {
        if (n < 0 || n > tape.length) {
            return BAD;
        }
        int had = tape.length;
        tape.length = n;
        return had;
    }

    public int text() {
        int answer = tape.tellAll(draft);
        tape.length = 0;
        if (answer >= 0) {
            now.takeTables(draft);
            track.forget();
            for (int k = 0; k < IMAGES; k++) {
                kept[k] = false;
            }
        }
        return answer;
    }

    public int fault() {
        return tape.faulty;
    }

    public int rule(int what) {
        switch (what) {
            case 0:
                return now.routines.size;
            case 1:
                return now.ops.size;
            case 2:
                return now.landings.size;
            case 3:
                return now.calls.size;
            case 4:
                return track.taken ? track.size : NONE;
            case 5:
                return track.taken ? track.ended : NONE;
            case 6:
                return track.taken ? track.guessed : NONE;
            case 7:
                return now.addressesHad();
            default:
                return BAD;
        }
    }

    public int routine(int r, int what) {
        if (!now.routines.has(r)) {
            return BAD;
        }
        switch (what) {
            case 0:
            case 1:
            case 2:
                return now.routines.at(r, what);
            case 3:
                return now.ops.howMany(OP_ROUTINE, r);
            case 4:
                return now.landings.howMany(LAND_ROUTINE, r);
            case 5:
                return now.routines.rankOf(r, FROM);
            default:
                return BAD;
        }
    }

    public int op(int i, int what) {
        if (!now.ops.has(i) || what < 0 || what >= OP_WIDTH) {
            return BAD;
        }
        return now.ops.at(i, what);
    }

    public int landing(int i, int what) {
        if (!now.landings.has(i) || what < 0 || what >= LAND_WIDTH) {
            return BAD;
        }
        return now.landings.at(i, what);
    }

    public int call(int i, int what) {
        if (!now.calls.has(i) || what < 0 || what > 2) {
            return BAD;
        }
        int which = now.calls.ranked(i, CALL_AT);
        return what == 2 ? which : now.calls.at(which, what);
    }

    public int whose(int address) {
        return now.ownerOf(address);
    }

    public int row(int address, int what) {
        if (what < 0 || what > 2) {
            return BAD;
        }
        int r = now.ownerOf(address);
        if (r == NONE) {
            return NONE;
        }
        ruled.goTo(now, r, address);
        if (what == 0) {
            return ruled.base();
        }
        return what == 1 ? ruled.off() : ruled.asideSize;
    }

    public int ruleOf(int address, int v, int what) {
        if (!isRegister(v) || v == S || what < 0 || what > 1) {
            return BAD;
        }
        int r = now.ownerOf(address);
        if (r == NONE) {
            return NONE;
        }
        ruled.goTo(now, r, address);
        int which = ruled.which(v);
        if (what == 0) {
            return which;
        }
        return which == RULE_SAME ? NONE : ruled.number(v);
    }

    // ---- registers, words

    public int put(int v, int x) {
        if (!isRegister(v) || !isNumber(x)) {
            return BAD;
        }
        int was = now.registers[v];
        now.registers[v] = x;
        return was;
    }

    public int poke(int i, int x) {
        if (!isWord(i) || !isNumber(x)) {
            return BAD;
        }
        int was = now.words[i];
        now.words[i] = x;
        return was;
    }

    public int get(int v) {
        return isRegister(v) ? now.registers[v] : BAD;
    }

    public int peek(int i) {
        return isWord(i) ? now.words[i] : BAD;
    }

    // ---- walks

    public int walk(int guesses) {
        if (guesses != 0 && guesses != 1) {
            return BAD;
        }
        track.begin(now.registers);
        boolean looks = guesses == 1;
        for (int k = 0; k < MOST_FRAMES; k++) {
            track.lookUp(k, now);
            int end = endAt(k);
            boolean guessed = looks && isGuessable(end) && findGuesses(k) > 0;
            if (end != GOES_ON && !guessed) {
                track.ended = end;
                break;
            }
            if (k + 1 >= MOST_FRAMES) {
                track.ended = END_FULL;
                break;
            }
            if (guessed) {
                track.addGuessed(k, now.words[hunt.bestWord()], hunt.bestWord());
            } else {
                track.addByRow(k, ruled, now.words);
            }
        }
        return track.size;
    }

    public int frame(int k, int v) {
        if (!track.has(k) || !isRegister(v)) {
            return BAD;
        }
        return track.register(k, v);
    }

    public int came(int k, int what) {
        if (!track.has(k)) {
            return BAD;
        }
        switch (what) {
            case 0:
                return track.owners[k];
            case 1:
                return track.looked[k];
            case 2:
                return track.ways[k];
            default:
                return BAD;
        }
    }

    public int guess(int s, int r, int i, int what) {
        if (!isWord(s) || i < 0 || what < 0 || what > 1) {
            return BAD;
        }
        if (r != NONE && !now.routines.has(r)) {
            return BAD;
        }
        hunt.lookThrough(now, s, r);
        if (i >= hunt.size) {
            return NONE;
        }
        return what == 0 ? hunt.places[i] : hunt.scores[i];
    }

    // ---- landings: in the latest WALK

    public int caught(int kind, int what) {
        if (!isThrown(kind) || what < 0 || what > 1) {
            return BAD;
        }
        if (!track.taken) {
            return STATE;
        }
        int k = catcherOf(kind);
        if (k == NONE || what == 0) {
            return k;
        }
        return catchIn(k, kind);
    }

    public int cleaned(int kind, int i) {
        if (!isThrown(kind) || i < 0) {
            return BAD;
        }
        if (!track.taken) {
            return STATE;
        }
        int catcher = catcherOf(kind);
        int ahead = 0;
        for (int k = 0; k < catcher; k++) {
            for (int l = 0; l < now.landings.size; l++) {
                if (!landsIn(k, l) || now.landings.at(l, LAND_KIND) != KIND_CLEANS) {
                    continue;
                }
                if (ahead == i) {
                    return 100 * k + l;
                }
                ahead++;
            }
        }
        return NONE;
    }

    // ---- what is changed

    public int move(int r, int what, int address) {
        if (!now.routines.has(r) || what < 0 || what > 1 || address < 0 || address > LAST_ADDRESS) {
            return BAD;
        }
        int from = what == 0 ? address : now.routines.at(r, FROM);
        int to = what == 1 ? address : now.routines.at(r, TO);
        if (from > to) {
            return BAD;
        }
        for (int other = 0; other < now.routines.size; other++) {
            if (other != r && now.meets(other, from, to)) {
                return STATE;
            }
        }
        int was = now.routines.at(r, what);
        now.routines.set(r, what, address);
        return was;
    }

    public int alter(int i, int n) {
        if (!now.ops.has(i)) {
            return BAD;
        }
        int kind = now.ops.at(i, OP_KIND);
        boolean fits;
        if (kind == IN) {
            fits = isRegister(n);
        } else {
            fits = (kind == GO || kind == BASE || kind == OFF || kind == SAVE) && n >= 0 && n <= LAST_N;
        }
        if (!fits) {
            return BAD;
        }
        int was = now.ops.at(i, OP_N);
        now.ops.set(i, OP_N, n);
        return was;
    }

    // ---- images, sheets

    public int keep(int k) {
        if (k < 0 || k >= IMAGES) {
            return BAD;
        }
        int was = kept[k] ? 1 : 0;
        images[k].takeAll(now);
        kept[k] = true;
        return was;
    }

    public int back(int k) {
        if (k < 0 || k >= IMAGES) {
            return BAD;
        }
        if (!kept[k]) {
            return STATE;
        }
        now.takeAll(images[k]);
        track.forget();
        return now.routines.size;
    }

    public int sheet(int k, int lane, int n) {
        if (!isSheet(k) || !isLane(lane) || n > MOST_CELLS) {
            return BAD;
        }
        if (n < 0) {
            return -10 - TORN_SIZE;
        }
        sheets[k].becomeNew(lane, n);
        return 1;
    }

    public int lay(int k, int i, int v) {
        if (!isSheet(k)) {
            return BAD;
        }
        Sheet laid = sheets[k];
        int refused = laid.refusal(laid.lane, i);
        if (refused != 0) {
            return -10 - refused;
        }
        laid.become(i, v);
        return 1;
    }

    public int read(int k, int lane, int f, int n, int i) {
        if (!isSheet(k) || !isLane(lane) || n < 0 || n > MOST_CELLS) {
            return BAD;
        }
        Sheet taken = sheets[k];
        int refused = 0;
        int came = 0;
        for (int j = 0; j < n; j++) {
            refused = taken.refusal(lane, f + j);
            if (refused != 0) {
                break;
            }
            int x = taken.cells[f + j];
            if (!isWord(i + j) || !isNumber(x)) {
                return -20 - j;
            }
            coming[j] = x;
            came++;
        }
        for (int j = 0; j < came; j++) {
            now.words[i + j] = coming[j];
        }
        tornBy = refused;
        return came;
    }

    public int torn() {
        return tornBy;
    }

    public int count(int what) {
        switch (what) {
            case 0:
                return (kept[0] ? 1 : 0) + (kept[1] ? 1 : 0);
            case 1:
                return tape.length;
            case 2:
                return sheets[0].isThere ? sheets[0].size : NONE;
            case 3:
                return sumOf(now.registers);
            case 4:
                return sumOf(now.words);
            default:
                return BAD;
        }
    }

    // ---- what the calls above share

    private static boolean isRegister(int v) {
        return v >= 0 && v < REGISTERS;
    }

    private static boolean isWord(int i) {
        return i >= 0 && i < WORDS;
    }

    private static boolean isNumber(int x) {
        return x >= 0 && x <= LAST_NUMBER;
    }

    private static boolean isSheet(int k) {
        return k >= 0 && k < SHEETS;
    }

    private static boolean isLane(int lane) {
        return lane >= 0 && lane < LANES;
    }

    private static boolean isThrown(int kind) {
        return kind > KIND_CLEANS && kind <= KIND_LAST_THROWN;
    }

    private static boolean isGuessable(int end) {
        return end == END_NO_ROUTINE || end == END_NO_WORD || end == END_NOT_ABOVE;
    }

    private static int sumOf(int[] numbers) {
        int sum = 0;
        for (int x : numbers) {
            sum += x;
        }
        return sum;
    }

    /** By what the WALK would end at FRAME k; GOES_ON leaves the ROW of the FRAME in ruled. */
    private int endAt(int k) {
        if (track.register(k, P) == 0) {
            return END_PLACE_0;
        }
        if (track.owners[k] == NONE) {
            return END_NO_ROUTINE;
        }
        ruled.goTo(now, track.owners[k], track.looked[k]);
        int top = track.topOf(k, ruled);
        if (top <= track.register(k, S)) {
            return END_NOT_ABOVE;
        }
        for (int v = 0; v < REGISTERS; v++) {
            if (ruled.which(v) == RULE_SAVED && !isWord(top - ruled.number(v))) {
                return END_NO_WORD;
            }
        }
        return GOES_ON;
    }

    private int findGuesses(int k) {
        hunt.lookThrough(now, track.register(k, S), track.owners[k]);
        return hunt.size;
    }

    private boolean landsIn(int k, int l) {
        return now.landings.at(l, LAND_ROUTINE) == track.owners[k]
            && now.landings.at(l, LAND_FROM) <= track.looked[k]
            && now.landings.at(l, LAND_TO) >= track.looked[k];
    }

    private int catchIn(int k, int kind) {
        for (int l = 0; l < now.landings.size; l++) {
            int caughtKind = now.landings.at(l, LAND_KIND);
            if (landsIn(k, l) && (caughtKind == kind || caughtKind == KIND_ANY)) {
                return l;
            }
        }
        return NONE;
    }

    private int catcherOf(int kind) {
        for (int k = 0; k < track.size; k++) {
            if (catchIn(k, kind) != NONE) {
                return k;
            }
        }
        return NONE;
    }

    /** Rows of numbers, all of one width, behind one another in one array so that a copy is one step. */
    private static final class Table {
        private final int width;
        private final int[] cells;
        private int size = 0;

        Table(int most, int columns) {
            width = columns;
            cells = new int[most * columns];
        }

        boolean has(int i) {
            return i >= 0 && i < size;
        }

        boolean isFull() {
            return (size + 1) * width > cells.length;
        }

        int at(int i, int column) {
            return i >= 0 && i < size && column >= 0 && column < width ? cells[i * width + column] : NONE;
        }

        void set(int i, int column, int x) {
            if (i >= 0 && i < size && column >= 0 && column < width) {
                cells[i * width + column] = x;
            }
        }

        void addOne() {
            if (!isFull()) {
                size++;
            }
        }

        void takeOver(Table other) {
            if (other.cells.length == cells.length) {
                System.arraycopy(other.cells, 0, cells, 0, cells.length);
                size = other.size;
            }
        }

        int howMany(int column, int x) {
            int many = 0;
            for (int i = 0; i < size; i++) {
                if (at(i, column) == x) {
                    many++;
                }
            }
            return many;
        }

        /** How many rows come ahead of row i by a column, of equal ones by order. */
        int rankOf(int i, int column) {
            int ahead = 0;
            for (int other = 0; other < size; other++) {
                int order = Integer.compare(at(other, column), at(i, column));
                if (order < 0 || order == 0 && other < i) {
                    ahead++;
                }
            }
            return ahead;
        }

        int ranked(int rank, int column) {
            for (int i = 0; i < size; i++) {
                if (rankOf(i, column) == rank) {
                    return i;
                }
            }
            return NONE;
        }
    }

    /** All that an IMAGE holds: what a text tells, REGISTERS, WORDS. */
    private static final class World {
        private final Table routines = new Table(MOST_ROUTINES, ROUTINE_WIDTH);
        private final Table ops = new Table(MOST_OPS, OP_WIDTH);
        private final Table landings = new Table(MOST_LANDINGS, LAND_WIDTH);
        private final Table calls = new Table(MOST_CALLS, CALL_WIDTH);
        private final int[] registers = new int[REGISTERS];
        private final int[] words = new int[WORDS];

        void clearTables() {
            routines.size = 0;
            ops.size = 0;
            landings.size = 0;
            calls.size = 0;
        }

        void takeTables(World other) {
            routines.takeOver(other.routines);
            ops.takeOver(other.ops);
            landings.takeOver(other.landings);
            calls.takeOver(other.calls);
        }

        void takeAll(World other) {
            takeTables(other);
            System.arraycopy(other.registers, 0, registers, 0, REGISTERS);
            System.arraycopy(other.words, 0, words, 0, WORDS);
        }

        boolean meets(int r, int from, int to) {
            return routines.at(r, FROM) <= to && routines.at(r, TO) >= from;
        }

        int ownerOf(int address) {
            for (int r = 0; r < routines.size; r++) {
                if (meets(r, address, address)) {
                    return r;
                }
            }
            return NONE;
        }

        boolean sharesAddresses() {
            for (int r = 0; r < routines.size; r++) {
                for (int other = 0; other < r; other++) {
                    if (meets(other, routines.at(r, FROM), routines.at(r, TO))) {
                        return true;
                    }
                }
            }
            return false;
        }

        int addressesHad() {
            int many = 0;
            for (int r = 0; r < routines.size; r++) {
                many += routines.at(r, TO) - routines.at(r, FROM) + 1;
            }
            return many;
        }

        boolean isCallAt(int address) {
            return calls.howMany(CALL_AT, address) > 0;
        }

        boolean isCallInto(int address, int r) {
            for (int i = 0; i < calls.size; i++) {
                int leadsTo = calls.at(i, CALL_TO);
                if (calls.at(i, CALL_AT) == address && meets(r, leadsTo, leadsTo)) {
                    return true;
                }
            }
            return false;
        }
    }

    /** The ROW of a ROUTINE at an ADDRESS, found by its OPS. */
    private static final class Row {
        private static final int AT_BASE = 0, AT_OFF = 1, AT_WHICH = 2, AT_NUMBER = 8, ROW_WIDTH = 14;

        // One array for all of the ROW: laying it aside is one copy.
        private final int[] cells = new int[ROW_WIDTH];
        private final int[] aside = new int[MOST_ASIDE * ROW_WIDTH];
        private int asideSize = 0;

        int base() {
            return cells[AT_BASE];
        }

        int off() {
            return cells[AT_OFF];
        }

        int which(int v) {
            return isRegister(v) ? cells[AT_WHICH + v] : RULE_SAME;
        }

        int number(int v) {
            return isRegister(v) ? cells[AT_NUMBER + v] : 0;
        }

        void goTo(World world, int r, int address) {
            asideSize = 0;
            becomeFirst();
            int place = world.routines.at(r, FROM);
            for (int i = 0; i < world.ops.size; i++) {
                if (world.ops.at(i, OP_ROUTINE) != r) {
                    continue;
                }
                int kind = world.ops.at(i, OP_KIND);
                if (kind == GO) {
                    place += world.ops.at(i, OP_N);
                    if (place > address) {
                        return;
                    }
                } else {
                    obey(kind, world.ops.at(i, OP_REGISTER), world.ops.at(i, OP_N));
                }
            }
        }

        private void obey(int kind, int v, int n) {
            switch (kind) {
                case BASE:
                    cells[AT_BASE] = v;
                    cells[AT_OFF] = n;
                    break;
                case OFF:
                    cells[AT_OFF] = n;
                    break;
                case SAVE:
                    becomes(v, RULE_SAVED, n);
                    break;
                case KEEP:
                    becomes(v, RULE_SAME, 0);
                    break;
                case IN:
                    becomes(v, RULE_IN, n);
                    break;
                case MARK:
                    layAside();
                    break;
                case RESET:
                    takeBack();
                    break;
                default:
                    break;
            }
        }

        private void becomeFirst() {
            Arrays.fill(cells, 0);
            cells[AT_BASE] = S;
            cells[AT_OFF] = 1;
            becomes(P, RULE_SAVED, 1);
        }

        private void becomes(int v, int which, int n) {
            if (isRegister(v)) {
                cells[AT_WHICH + v] = which;
                cells[AT_NUMBER + v] = n;
            }
        }

        private void layAside() {
            if (asideSize < MOST_ASIDE) {
                System.arraycopy(cells, 0, aside, asideSize * ROW_WIDTH, ROW_WIDTH);
                asideSize++;
            }
        }

        private void takeBack() {
            if (asideSize > 0) {
                asideSize--;
                System.arraycopy(aside, asideSize * ROW_WIDTH, cells, 0, ROW_WIDTH);
            } else {
                becomeFirst();
            }
        }
    }

    /** THE TAPE, and how its text is read. */
    private static final class Tape {
        private final int[] bytes = new int[TAPE_BYTES];
        private int length = 0;
        private int faulty = 0;
        private int faultPlace = 0;

        private int tokenKind = TOKEN_END;
        private int tokenFrom = 0;
        private int tokenTo = 0;
        private int tokenNumber = 0;

        private final int[] operands = new int[MOST_OPERANDS];

        /** How many lines were told to the world; -10 less the place of the FAULT. */
        int tellAll(World world) {
            world.clearTables();
            faulty = 0;
            faultPlace = 0;
            tokenTo = 0;
            nextToken();
            int lines = 0;
            while (lines < TAPE_BYTES && tokenKind != TOKEN_END && faulty == 0) {
                tellLine(world);
                lines++;
            }
            if (faulty == 0 && world.sharesAddresses()) {
                refuse(FAULT_SHARED, length);
            }
            return faulty == 0 ? lines : -10 - faultPlace;
        }

        private void tellLine(World world) {
            int line = lineNamed();
            if (faulty == 0) {
                refuseTooMany(world, line);
            }
            for (int j = 0; j < MOST_OPERANDS && faulty == 0; j++) {
                int wanted = OPERANDS[line * MOST_OPERANDS + j];
                if (wanted != NOT_ANY) {
                    nextToken();
                    takeOperand(j, wanted);
                }
            }
            if (faulty == 0) {
                nextToken();
                refuseUnless(tokenKind == TOKEN_STOP);
            }
            if (faulty == 0) {
                addLine(world, line);
                nextToken();
            }
        }

        /** The line that the NAME begins; with a FAULT any line will do, as no more of it is read. */
        private int lineNamed() {
            int line = 0;
            while (line < LINES && !isNamed(nameOf(line))) {
                line++;
            }
            refuseUnless(line < LINES);
            return line < LINES ? line : 0;
        }

        private static String nameOf(int line) {
            switch (line) {
                case GO:
                    return "go";
                case BASE:
                    return "base";
                case OFF:
                    return "off";
                case SAVE:
                    return "save";
                case KEEP:
                    return "keep";
                case IN:
                    return "in";
                case MARK:
                    return "mark";
                case RESET:
                    return "reset";
                case FUN:
                    return "fun";
                case SIG:
                    return "sig";
                case LAND:
                    return "land";
                case CALL:
                    return "call";
                default:
                    return "";
            }
        }

        private boolean isNamed(String name) {
            if (tokenKind != TOKEN_NAME || tokenTo - tokenFrom != name.length()) {
                return false;
            }
            for (int j = 0; j < name.length(); j++) {
                if (bytes[tokenFrom + j] != name.charAt(j)) {
                    return false;
                }
            }
            return true;
        }

        private void refuseTooMany(World world, int line) {
            boolean ahead = line != FUN && line != SIG && line != CALL && world.routines.size == 0;
            if (ahead || tableOf(world, line).isFull()) {
                refuse(FAULT_MANY, tokenFrom);
            }
        }

        private static Table tableOf(World world, int line) {
            switch (line) {
                case FUN:
                case SIG:
                    return world.routines;
                case LAND:
                    return world.landings;
                case CALL:
                    return world.calls;
                default:
                    return world.ops;
            }
        }

        private void takeOperand(int j, int wanted) {
            boolean isNamedR = wanted == REGISTER || wanted == REGISTER_NOT_P || wanted == REGISTER_NOT_S;
            if (isNamedR) {
                int v = registerNamed();
                refuseUnless(v != NONE);
                if (wanted == REGISTER_NOT_P && v == P || wanted == REGISTER_NOT_S && v == S) {
                    refuse(FAULT_REGISTER, tokenFrom);
                }
                operands[j] = v;
                return;
            }
            refuseUnless(tokenKind == TOKEN_NUMBER);
            if (faulty == 0 && !isWithin(tokenNumber, j, wanted)) {
                refuse(FAULT_BOUNDS, tokenFrom);
            }
            operands[j] = tokenNumber;
        }

        private boolean isWithin(int n, int j, int wanted) {
            switch (wanted) {
                case ADDRESS_UP:
                    return j > 0 && n >= operands[j - 1] && n <= LAST_ADDRESS;
                case SMALL:
                    return n <= LAST_N;
                case LANDING_KIND:
                    return n <= KIND_ANY;
                default:
                    return n <= LAST_ADDRESS;
            }
        }

        private int registerNamed() {
            if (tokenKind != TOKEN_NAME || tokenTo - tokenFrom != 1) {
                return NONE;
            }
            int letter = bytes[tokenFrom];
            if (letter >= 'a' && letter <= 'd') {
                return letter - 'a';
            }
            if (letter == 's') {
                return S;
            }
            return letter == 'p' ? P : NONE;
        }

        private void addLine(World world, int line) {
            Table table = tableOf(world, line);
            int i = table.size;
            table.addOne();
            int latest = world.routines.size - 1;
            if (line == FUN || line == SIG) {
                table.set(i, FROM, operands[0]);
                table.set(i, TO, operands[1]);
                table.set(i, SIGNAL, line == SIG ? 1 : 0);
            } else if (line == CALL) {
                table.set(i, CALL_AT, operands[0]);
                table.set(i, CALL_TO, operands[1]);
            } else if (line == LAND) {
                for (int j = 0; j < MOST_OPERANDS; j++) {
                    table.set(i, j, operands[j]);
                }
                table.set(i, LAND_ROUTINE, latest);
            } else {
                boolean hasRegister = line == BASE || line == SAVE || line == KEEP || line == IN;
                boolean hasN = line != KEEP && line != MARK && line != RESET;
                table.set(i, OP_KIND, line);
                table.set(i, OP_REGISTER, hasRegister ? operands[0] : NONE);
                table.set(i, OP_N, hasN ? operands[hasRegister ? 1 : 0] : NONE);
                table.set(i, OP_ROUTINE, latest);
            }
        }

        /** Reads the TOKEN behind the one there is; the end stands at the length, as its FAULT does. */
        private void nextToken() {
            int place = tokenTo;
            while (place < length && bytes[place] == ' ') {
                place++;
            }
            tokenFrom = place;
            tokenTo = place;
            tokenNumber = 0;
            if (place >= length) {
                tokenKind = TOKEN_END;
            } else if (isLetter(bytes[place])) {
                readName();
            } else if (isFigure(bytes[place])) {
                readNumber();
            } else {
                tokenKind = bytes[place] == ';' ? TOKEN_STOP : TOKEN_BROKEN;
                tokenTo = place + 1;
            }
            if (tokenKind == TOKEN_BROKEN) {
                refuse(FAULT_TOKEN, tokenFrom);
            }
        }

        private void readName() {
            tokenKind = TOKEN_NAME;
            while (tokenTo < length && isLetter(bytes[tokenTo])) {
                tokenTo++;
            }
        }

        private void readNumber() {
            while (tokenTo < length && isFigure(bytes[tokenTo])) {
                // What is too long is refused: its worth does not matter, and may not grow.
                if (tokenTo - tokenFrom < LAST_FIGURES) {
                    tokenNumber = tokenNumber * 10 + (bytes[tokenTo] - '0');
                }
                tokenTo++;
            }
            tokenKind = tokenTo - tokenFrom > LAST_FIGURES ? TOKEN_BROKEN : TOKEN_NUMBER;
        }

        private static boolean isLetter(int c) {
            return c >= 'a' && c <= 'z';
        }

        private static boolean isFigure(int c) {
            return c >= '0' && c <= '9';
        }

        private void refuseUnless(boolean fits) {
            if (!fits) {
                refuse(FAULT_PLACE, tokenFrom);
            }
        }

        /** Only the first FAULT met counts. */
        private void refuse(int what, int place) {
            if (faulty == 0) {
                faulty = what;
                faultPlace = place;
            }
        }
    }

    /** The latest WALK: its FRAMES with all that was so when it was taken. */
    private static final class Track {
        private final int[] registers = new int[MOST_FRAMES * REGISTERS];
        private final int[] owners = new int[MOST_FRAMES];
        private final int[] looked = new int[MOST_FRAMES];
        private final int[] ways = new int[MOST_FRAMES];
        private boolean taken = false;
        private boolean leftSignal = false;
        private int size = 0;
        private int ended = 0;
        private int guessed = 0;

        void forget() {
            taken = false;
            size = 0;
        }

        void begin(int[] first) {
            taken = true;
            leftSignal = false;
            size = 0;
            ended = 0;
            guessed = 0;
            for (int v = 0; v < REGISTERS && v < first.length; v++) {
                registers[v] = first[v];
            }
            add(CAME_FIRST);
        }

        boolean has(int k) {
            return k >= 0 && k < size;
        }

        int register(int k, int v) {
            return has(k) && isRegister(v) ? registers[k * REGISTERS + v] : 0;
        }

        void lookUp(int k, World world) {
            if (!has(k)) {
                return;
            }
            boolean asItIs = ways[k] == CAME_FIRST || ways[k] == CAME_BY_ROW && leftSignal;
            looked[k] = asItIs ? register(k, P) : register(k, P) - 1;
            owners[k] = world.ownerOf(looked[k]);
            leftSignal = world.routines.at(owners[k], SIGNAL) == 1;
        }

        int topOf(int k, Row row) {
            return register(k, row.base()) + row.off();
        }

        void addGuessed(int k, int place, int word) {
            if (size >= MOST_FRAMES) {
                return;
            }
            int next = size * REGISTERS;
            for (int v = 0; v < REGISTERS; v++) {
                registers[next + v] = register(k, v);
            }
            registers[next + S] = word + 1;
            registers[next + P] = place;
            guessed++;
            add(CAME_BY_GUESS);
        }

        void addByRow(int k, Row row, int[] words) {
            if (size >= MOST_FRAMES) {
                return;
            }
            int next = size * REGISTERS;
            int top = topOf(k, row);
            for (int v = 0; v < REGISTERS; v++) {
                registers[next + v] = callers(k, v, row, words);
            }
            registers[next + S] = top;
            add(CAME_BY_ROW);
        }

        private int callers(int k, int v, Row row, int[] words) {
            if (row.which(v) == RULE_IN) {
                return register(k, row.number(v));
            }
            if (row.which(v) == RULE_SAVED) {
                int i = topOf(k, row) - row.number(v);
                return i >= 0 && i < words.length ? words[i] : 0;
            }
            return register(k, v);
        }

        private void add(int way) {
            if (size < MOST_FRAMES) {
                ways[size] = way;
                size++;
            }
        }
    }

    /** GUESSES found by looking through WORDS, the best first. */
    private static final class Hunt {
        private final int[] places = new int[MOST_GUESSES];
        private final int[] scores = new int[MOST_GUESSES];
        private int size = 0;

        void lookThrough(World world, int s, int r) {
            size = 0;
            for (int j = 0; j < MOST_GUESSES; j++) {
                int i = s + j;
                if (isWord(i)) {
                    int score = scoreOf(world, world.words[i] - 1, r);
                    if (score > 0) {
                        enter(i, score);
                    }
                }
            }
        }

        int bestWord() {
            return size > 0 ? places[0] : 0;
        }

        private static int scoreOf(World world, int address, int r) {
            if (world.ownerOf(address) == NONE) {
                return 0;
            }
            int score = 1;
            if (world.isCallAt(address)) {
                score += 2;
            }
            if (r != NONE && world.isCallInto(address, r)) {
                score += 4;
            }
            return score;
        }

        /** WORDS come in order: one of equal SCORE goes behind those there are. */
        private void enter(int i, int score) {
            int at = Math.min(size, MOST_GUESSES - 1);
            while (at > 0 && scores[at - 1] < score) {
                places[at] = places[at - 1];
                scores[at] = scores[at - 1];
                at--;
            }
            places[at] = i;
            scores[at] = score;
            size = Math.min(size + 1, MOST_GUESSES);
        }
    }

    /** A row of BYTES, SHORTS or INTS; the CELLS hold what a row of that lane would. */
    private static final class Sheet {
        private final int[] cells = new int[MOST_CELLS];
        private boolean isThere = false;
        private int lane = 0;
        private int size = 0;

        void becomeNew(int newLane, int newSize) {
            Arrays.fill(cells, 0);
            isThere = true;
            lane = newLane;
            size = newSize;
        }

        /** The FAULT of CELL i if this were taken as of a lane; 0. */
        int refusal(int takenLane, int i) {
            if (!isThere) {
                return TORN_NULL;
            }
            if (takenLane != lane) {
                return TORN_CAST;
            }
            return i < 0 || i >= size ? TORN_INDEX : 0;
        }

        void become(int i, int v) {
            if (i < 0 || i >= size) {
                return;
            }
            if (lane == 0) {
                cells[i] = (byte) v;
            } else if (lane == 1) {
                cells[i] = (short) v;
            } else {
                cells[i] = v;
            }
        }
    }
}
