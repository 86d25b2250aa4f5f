import java.util.Arrays;
import java.util.NoSuchElementException;

/**
 * A door of latches that lean on one another, told as a text.
 *
 * The words in capitals in the comments are those of the document (DOC.md, "Terms").
 * All arrays are made with the object and used again, so that calls make nothing anew.
 */
public final class LeanLatches {
    public static final int NONE = -1;

    private static final int NOT_SO = -2;
    private static final long ERROR = Long.MIN_VALUE;

    private static final int MOST_BYTES = 700;
    private static final int MOST_LATCHES = 8;
    private static final int MOST_ROWS = 256;
    private static final int MOST_LETTERS = 6;
    private static final int MOST_PUSHES = 16;
    private static final int MOST_OILS = 4;
    private static final int MOST_OPEN = 8;
    private static final int MOST_KNOTS = 64;
    private static final int MOST_NOTES = 24;
    private static final int MOST_UNDONE = 20;
    private static final int MOST_MINUTES = 200;
    private static final int MOST_WAITED = 199;
    private static final int MOST_CHANCE_MINUTES = 99;
    private static final int MOST_DRUNK = 5;
    private static final int MOST_HOLDS = 6;
    private static final int LAST_TOLD_MINUTE = 99;
    private static final int LAST_MINUTE = 9000;
    private static final int DRAWINGS = 10;

    private static final int EFFORT_LAW = 0;
    private static final int SEAL_LAW = 1;
    private static final int EAT_LAW = 2;
    private static final int LAWS = 3;

    private static final int UNSEALED = 0;
    private static final int UNLEANT = 1;
    private static final int UNPUSHED = 2;
    private static final int UNOILED = 3;
    private static final int TWICE = 4;

    private static final int WRONG_TOKEN = 1;
    private static final int TOO_MUCH = 2;
    private static final int TOLD_ALREADY = 3;
    private static final int NOT_TOLD = 4;
    private static final int ON_ITSELF = 5;

    // Kinds of TOKENS, of which those of KNOTS are the KNOTS' kinds, too. The words' kinds
    // go by their places in WORDS, the signs' by their places in SIGNS.
    private static final String WORDS =
            "latch lean push oil rust seed law effort seal eat or and not up down many as worn place ups seals high tired minute ";
    private static final int WORD_KINDS = 24;
    private static final int LATCH = 0;
    private static final int LEAN = 1;
    private static final int PUSH = 2;
    private static final int OIL = 3;
    private static final int RUST = 4;
    private static final int SEED = 5;
    private static final int LAW = 6;
    private static final int EFFORT = 7;
    private static final int EAT = 9;
    private static final int OR = 10;
    private static final int AND = 11;
    private static final int NOT = 12;
    private static final int UP = 13;
    private static final int DOWN = 14;
    private static final int MANY = 15;
    private static final int AS = 16;
    private static final int WORN = 17;
    private static final int PLACE = 18;
    private static final int UPS = 19;
    private static final int SEALS = 20;
    private static final int HIGH = 21;
    private static final int TIRED = 22;
    private static final int MINUTE = 23;
    private static final String SIGNS = ";()<=>+-*/";
    private static final int SEMICOLON = 24;
    private static final int OPEN = 25;
    private static final int CLOSE = 26;
    private static final int LESS = 27;
    private static final int EQUAL = 28;
    private static final int MORE = 29;
    private static final int PLUS = 30;
    private static final int MINUS = 31;
    private static final int TIMES = 32;
    private static final int OVER = 33;
    private static final int AT_MOST = 34;
    private static final int UNLIKE = 35;
    private static final int AT_LEAST = 36;
    private static final int NUMBER = 37;
    private static final int NAME = 38;
    private static final int END = 39;
    private static final int UNKNOWN = 40;

    private static final int OR_RANK = 1;
    private static final int NOT_RANK = 3;
    private static final int COMPARE_RANK = 4;

    private final Reader reader = new Reader();
    private Door door = new Door();
    private final State state = new State();
    private final State trial = new State();
    private final State image = new State();
    private boolean imaged;
    private final Clock clock = new Clock();
    private final Undos undos = new Undos();
    private final Paths paths = new Paths();
    private final Notes notes = new Notes();

    /** The parts as they are made tell a TEXT without LINES. */
    public LeanLatches() {
    }

    public int feed(int a, int b, int c, int d, int e) {
        Tape tape = reader.tape;
        if (tape.size + 20 > MOST_BYTES) {
            return NONE;
        }
        tape.add(a);
        tape.add(b);
        tape.add(c);
        tape.add(d);
        tape.add(e);
        return tape.size;
    }

    public int text(int n) {
        if (n < 0 || n > reader.tape.size) {
            return NOT_SO;
        }
        boolean told = reader.reads(n);
        reader.tape.size = 0;
        if (!told) {
            return NONE;
        }
        Door before = door;
        door = reader.door;
        reader.door = before;
        state.begin(door);
        notes.clear();
        undos.clear();
        imaged = false;
        return door.lines;
    }

    public int fault(int what) {
        if (what == 0) {
            return reader.fault;
        }
        return what == 1 ? reader.place : NONE;
    }

    public int named(int letters) {
        return door.numberOf(letters);
    }

    public int latch(int latch, int what) throws IndexOutOfBoundsException, NoSuchElementException {
        if (!door.has(latch)) {
            throw new IndexOutOfBoundsException("no such latch");
        }
        switch (what) {
            case 0:
                return state.row >> latch & 1;
            case 1:
                return state.sealed >> latch & 1;
            case 2:
                return door.movable(state.row, state.sealed) >> latch & 1;
            case 3:
                return state.wornOf(latch);
            default:
                throw new NoSuchElementException("no such what");
        }
    }

    public int row(int what) {
        switch (what) {
            case 0:
                return state.row;
            case 1:
                return state.sealed;
            case 2:
                return door.movable(state.row, state.sealed);
            default:
                return NONE;
        }
    }

    public int could(int row, int latch) {
        if (!door.hasRow(row) || !door.has(latch)) {
            return NONE;
        }
        return door.movable(row, 0) >> latch & 1;
    }

    public long law(int what, int latch) {
        if (what < 0 || what >= LAWS || !door.has(latch)) {
            return ERROR;
        }
        return clock.worthOf(door, state, what, latch);
    }

    public int push(int latch) {
        if (!door.has(latch)) {
            return NONE;
        }
        if ((door.movable(state.row, state.sealed) >> latch & 1) == 0) {
            return NOT_SO;
        }
        undos.remember(state, latch);
        clock.asItGoes();
        clock.pushes(door, state, latch);
        return Integer.bitCount(state.row);
    }

    public int force(int latch) {
        if (!door.has(latch)) {
            return NONE;
        }
        undos.remember(state, latch);
        state.row ^= 1 << latch;
        return state.row >> latch & 1;
    }

    public int seal(int latch) {
        if (!door.has(latch)) {
            return NONE;
        }
        undos.remember(state, latch);
        state.sealed ^= 1 << latch;
        return state.sealed >> latch & 1;
    }

    public int go(int n) {
        if (n < 0 || n > MOST_MINUTES || state.minute + n > LAST_MINUTE) {
            return NONE;
        }
        if (n > 0) {
            undos.clear();
        }
        clock.drawn();
        clock.pass(door, state, n);
        return state.minute;
    }

    public int ahead(int n, int what) {
        if (n < 0 || n > MOST_MINUTES) {
            return NONE;
        }
        trial.take(state);
        clock.asItGoes();
        clock.pass(door, trial, n);
        switch (what) {
            case 0:
                return Integer.bitCount(trial.row);
            case 1:
                return trial.effort - state.effort;
            case 2:
                return trial.vain - state.vain;
            case 3:
                return Integer.bitCount(trial.sealed);
            case 4:
                return trial.row;
            default:
                return NONE;
        }
    }

    public int when(int latch) {
        if (!door.has(latch)) {
            return NONE;
        }
        trial.take(state);
        clock.asItGoes();
        for (int minutes = 1; minutes <= MOST_WAITED; minutes++) {
            clock.pass(door, trial, 1);
            if (((trial.row ^ state.row) >> latch & 1) != 0) {
                return minutes;
            }
        }
        return NOT_SO;
    }

    public int fewest(int row) {
        if (!door.hasRow(row)) {
            return NONE;
        }
        lookAround();
        int steps = paths.stepsTo(row);
        return steps == NONE ? NOT_SO : steps;
    }

    public int first(int row) {
        if (!door.hasRow(row)) {
            return NONE;
        }
        lookAround();
        return paths.firstTo(row);
    }

    public int ways(int row) {
        if (!door.hasRow(row)) {
            return NONE;
        }
        lookAround();
        return paths.waysTo(row);
    }

    public int reach() {
        lookAround();
        return paths.found;
    }

    public int farthest(int what) {
        if (what != 0 && what != 1) {
            return NONE;
        }
        lookAround();
        int row = paths.farthestRow();
        return what == 0 ? paths.stepsTo(row) : row;
    }

    public int wide() {
        paths.lay(door, state.sealed);
        return paths.width(state.row);
    }

    public int parts() {
        paths.lay(door, state.sealed);
        return paths.partsInAll();
    }

    public int past(int row, int k) {
        if (!door.hasRow(row) || k < 0 || row == state.row) {
            return NONE;
        }
        paths.lay(door, state.sealed);
        return paths.narrow(state.row, row, k);
    }

    public int must(int row) {
        if (!door.hasRow(row)) {
            return NONE;
        }
        paths.lay(door, state.sealed);
        return paths.needed(state.row, row);
    }

    public int free(int latch) {
        if (!door.has(latch)) {
            return NONE;
        }
        lookAround();
        return paths.stepsToMove(latch);
    }

    public int ease(int row) {
        if (!door.hasRow(row)) {
            return NONE;
        }
        // A SEALED LATCH can't be MOVED whatever it LEANS on; all others can, if none LEANS.
        if (((row ^ state.row) & state.sealed) != 0) {
            return NOT_SO;
        }
        paths.lay(door, state.sealed);
        return paths.eased(state.row, row, state.sealed, door.leaning);
    }

    public int game(int what) {
        if (what != 0 && what != 1) {
            return NONE;
        }
        paths.lay(door, state.sealed);
        int latch = paths.winningLatch(state.row);
        if (what == 1) {
            return latch;
        }
        return latch == NOT_SO ? 1 : 0;
    }

    public long drunk(int row, int n, int what) {
        if (!door.hasRow(row) || n < 0 || n > MOST_DRUNK || what < 0 || what > 1) {
            return NONE;
        }
        paths.lay(door, state.sealed);
        long above = paths.drunkTo(state.row, row, n);
        return inLeastTerms(above, power(Paths.ALL_ALIKE, n), what);
    }

    public long holds(int n, int what) {
        if (n < 0 || n > MOST_HOLDS || what < 0 || what > 1) {
            return NONE;
        }
        return inLeastTerms(power(100 - door.rust, n), power(100, n), what);
    }

    public int note(int row, int latch, boolean could) {
        if (!door.hasRow(row) || !door.has(latch)) {
            return NONE;
        }
        return notes.add(latch, row, could);
    }

    public int strike(int note) {
        if (note < 0 || note >= notes.size) {
            return NONE;
        }
        return notes.add(NONE, note, false);
    }

    public boolean known(int n) {
        if (n < -1 || n > notes.size) {
            return false;
        }
        notes.knownBy = n;
        return true;
    }

    public int fits(int latch) {
        return door.has(latch) ? notes.fitting(latch, door.latches) : NONE;
    }

    public int ask(int latch, int what) {
        if (!door.has(latch) || what < 0 || what > 1) {
            return NONE;
        }
        return notes.bestAsked(latch, door.latches, what);
    }

    public int chance(int seed, int n, int latch) {
        if (seed < 0 || n < 1 || n > MOST_CHANCE_MINUTES || !door.has(latch)) {
            return NONE;
        }
        clock.drawn();
        long number = seed;
        int times = 0;
        for (int drawing = 0; drawing < DRAWINGS; drawing++) {
            trial.take(state);
            trial.number = number;
            clock.pass(door, trial, n);
            number = trial.number;
            times += trial.sealed >> latch & 1;
        }
        return times;
    }

    public int tried(int what, int i, int n) {
        boolean such = what == UNPUSHED ? door.has(i) : i == 0;
        if (what < UNSEALED || what > TWICE || !such || n < 0 || n > MOST_MINUTES) {
            return NONE;
        }
        trial.take(state);
        clock.otherwise(what, i);
        clock.pass(door, trial, n);
        return trial.effort - state.effort;
    }

    public int undo() {
        return undos.takeBack(state);
    }

    public int keep() {
        image.take(state);
        imaged = true;
        return state.minute;
    }

    public int back() {
        if (!imaged) {
            return NONE;
        }
        state.take(image);
        undos.clear();
        return state.minute;
    }

    public int count(int what) {
        switch (what) {
            case 0:
                return door.latches;
            case 1:
                return door.leans;
            case 2:
                return door.pushes;
            case 3:
                return door.knots.size;
            case 4:
                return state.minute;
            case 5:
                return Integer.bitCount(state.row);
            case 6:
                return Integer.bitCount(state.sealed);
            case 7:
                return state.effort;
            case 8:
                return state.vain;
            case 9:
                return state.wornInAll();
            case 10:
                return notes.size;
            case 11:
                return notes.counted();
            case 12:
                return undos.size;
            default:
                return NONE;
        }
    }

    /** Finds by how few MOVES each ROW can be had from now. */
    private void lookAround() {
        paths.lay(door, state.sealed);
        paths.spread(state.row);
    }

    private static long power(long base, int times) {
        long product = 1;
        for (int i = 0; i < times; i++) {
            product *= base;
        }
        return product;
    }

    private static long inLeastTerms(long above, long below, int what) {
        long common = below;
        long rest = above;
        // Euclid's steps on longs are fewer than a hundred.
        for (int i = 0; i < 100 && rest != 0; i++) {
            long next = common % rest;
            common = rest;
            rest = next;
        }
        if (common == 0) {
            return NONE;
        }
        return (what == 0 ? above : below) / common;
    }

    /** How strongly what joins sides holds them; 0 for all else. */
    private static int rank(int kind) {
        switch (kind) {
            case OR:
                return OR_RANK;
            case AND:
                return 2;
            case NOT:
                return NOT_RANK;
            case LESS:
            case EQUAL:
            case MORE:
            case AT_MOST:
            case UNLIKE:
            case AT_LEAST:
                return COMPARE_RANK;
            case PLUS:
            case MINUS:
                return 5;
            case TIMES:
            case OVER:
                return 6;
            default:
                return 0;
        }
    }

    /** The bytes that were fed, and the TOKEN of them that is looked at. */
    private static final class Tape {
        private static final int FAR = 1000000;

        private final int[] bytes = new int[MOST_BYTES];
        private final int[] words = new int[WORD_KINDS];
        private int size;
        private int limit;
        private int at;
        private int kind;
        private int start;
        private int value;

        private Tape() {
            int word = 0;
            int letters = 0;
            for (int i = 0; i < WORDS.length(); i++) {
                if (WORDS.charAt(i) == ' ') {
                    word++;
                    letters = 0;
                } else if (word < WORD_KINDS) {
                    words[word] |= letterBits(WORDS.charAt(i), letters);
                    letters++;
                }
            }
        }

        private static int letterBits(int letter, int before) {
            return before < MOST_LETTERS ? letter - 'a' + 1 << 5 * (MOST_LETTERS - 1 - before) : 0;
        }

        private void add(int four) {
            for (int shift = 24; shift >= 0; shift -= 8) {
                if (size < MOST_BYTES) {
                    bytes[size] = four >> shift & 255;
                    size++;
                }
            }
        }

        private void begin(int length) {
            limit = Math.min(length, size);
            at = 0;
            advance();
        }

        private boolean between(int least, int most) {
            return at < limit && at < MOST_BYTES && bytes[at] >= least && bytes[at] <= most;
        }

        private void advance() {
            while (at < limit && (between(32, 32) || between(10, 10))) {
                at++;
            }
            start = at;
            value = 0;
            if (at >= limit) {
                kind = END;
            } else if (between('a', 'z')) {
                readWord();
            } else if (between('0', '9')) {
                readNumber();
            } else {
                readSign();
            }
        }

        private void readWord() {
            while (at < limit && between('a', 'z')) {
                value |= letterBits(bytes[at], at - start);
                at++;
            }
            if (at - start > MOST_LETTERS) {
                kind = UNKNOWN;
                return;
            }
            kind = NAME;
            for (int word = 0; word < WORD_KINDS; word++) {
                if (words[word] == value) {
                    kind = word;
                }
            }
        }

        private void readNumber() {
            kind = NUMBER;
            while (at < limit && between('0', '9')) {
                value = Math.min(FAR, value * 10 + bytes[at] - '0');
                at++;
            }
        }

        private void readSign() {
            int sign = NONE;
            if (at < MOST_BYTES) {
                sign = SIGNS.indexOf((char) bytes[at]);
            }
            at++;
            kind = sign < 0 ? UNKNOWN : SEMICOLON + sign;
            if (kind == LESS && between('=', '=')) {
                kind = AT_MOST;
                at++;
            } else if (kind == LESS && between('>', '>')) {
                kind = UNLIKE;
                at++;
            } else if (kind == MORE && between('=', '=')) {
                kind = AT_LEAST;
                at++;
            }
        }
    }

    /** Reads a TEXT into a Door that isn't in use, up to the first FAULT. */
    private static final class Reader {
        private final Tape tape = new Tape();
        private Door door = new Door();
        private final int[] pending = new int[MOST_KNOTS + MOST_OPEN];
        private int pendings;
        private int opened;
        private int asked = NONE;
        private int counted;
        private boolean rustTold;
        private boolean seedTold;
        private int fault;
        private int place = NONE;

        private boolean reads(int length) {
            door.clear();
            counted = 0;
            rustTold = false;
            seedTold = false;
            fault = 0;
            place = NONE;
            tape.begin(length);
            for (int line = 0; line <= MOST_BYTES && tape.kind != END; line++) {
                if (!line() || !ends()) {
                    return false;
                }
                door.lines++;
            }
            door.settle();
            return true;
        }

        private boolean fails(int which) {
            fault = which;
            place = tape.start;
            return false;
        }

        private boolean ends() {
            if (tape.kind != SEMICOLON) {
                return fails(WRONG_TOKEN);
            }
            tape.advance();
            return true;
        }

        private boolean line() {
            switch (tape.kind) {
                case LATCH:
                    return latchLine();
                case LEAN:
                    return leanLine();
                case PUSH:
                    return pushLine();
                case OIL:
                    return oilLine();
                case RUST:
                    return rustLine();
                case SEED:
                    return seedLine();
                case LAW:
                    return lawLine();
                default:
                    return fails(WRONG_TOKEN);
            }
        }

        private boolean latchLine() {
            if (door.latches >= MOST_LATCHES) {
                return fails(TOO_MUCH);
            }
            tape.advance();
            if (tape.kind != NAME) {
                return fails(WRONG_TOKEN);
            }
            int name = tape.value;
            if (door.numberOf(name) != NONE) {
                return fails(TOLD_ALREADY);
            }
            tape.advance();
            if (!numberTo(1)) {
                return false;
            }
            door.addLatch(name, tape.value);
            tape.advance();
            return true;
        }

        private boolean leanLine() {
            tape.advance();
            if (!toldLatch()) {
                return false;
            }
            int latch = door.numberOf(tape.value);
            if (door.doesLean(latch)) {
                return fails(TOLD_ALREADY);
            }
            tape.advance();
            int from = door.knots.size;
            if (!formula(latch)) {
                return false;
            }
            door.addLean(latch, from);
            return true;
        }

        private boolean pushLine() {
            if (door.pushes >= MOST_PUSHES) {
                return fails(TOO_MUCH);
            }
            tape.advance();
            if (!toldLatch()) {
                return false;
            }
            int latch = door.numberOf(tape.value);
            tape.advance();
            if (!numberTo(LAST_TOLD_MINUTE)) {
                return false;
            }
            door.addPush(latch, tape.value);
            tape.advance();
            return true;
        }

        private boolean oilLine() {
            if (door.oils >= MOST_OILS) {
                return fails(TOO_MUCH);
            }
            tape.advance();
            if (!numberTo(LAST_TOLD_MINUTE)) {
                return false;
            }
            door.addOil(tape.value);
            tape.advance();
            return true;
        }

        private boolean rustLine() {
            if (!once(rustTold, 100)) {
                return false;
            }
            rustTold = true;
            door.rust = tape.value;
            tape.advance();
            return true;
        }

        private boolean seedLine() {
            if (!once(seedTold, 99999)) {
                return false;
            }
            seedTold = true;
            door.seed = tape.value;
            tape.advance();
            return true;
        }

        private boolean once(boolean told, int most) {
            if (told) {
                return fails(TOLD_ALREADY);
            }
            tape.advance();
            return numberTo(most);
        }

        private boolean lawLine() {
            tape.advance();
            int law = tape.kind - EFFORT;
            if (tape.kind < EFFORT || tape.kind > EAT) {
                return fails(WRONG_TOKEN);
            }
            if (door.hasLaw(law)) {
                return fails(TOLD_ALREADY);
            }
            tape.advance();
            int from = door.knots.size;
            if (!formula(NONE)) {
                return false;
            }
            door.addLaw(law, from);
            return true;
        }

        private boolean numberTo(int most) {
            if (tape.kind != NUMBER) {
                return fails(WRONG_TOKEN);
            }
            return tape.value <= most || fails(TOO_MUCH);
        }

        private boolean toldLatch() {
            if (tape.kind != NAME) {
                return fails(WRONG_TOKEN);
            }
            return door.numberOf(tape.value) != NONE || fails(NOT_TOLD);
        }

        /** Reads an F, of the LATCH that LEANS so, or an E, if that is NONE. */
        private boolean formula(int latch) {
            pendings = 0;
            opened = 0;
            asked = NONE;
            boolean wanting = true;
            for (int turn = 0; turn <= MOST_BYTES; turn++) {
                if (asked != NONE) {
                    if (!asks(latch)) {
                        return false;
                    }
                } else if (!wanting && tape.kind == SEMICOLON && opened == 0) {
                    settlePending(OR_RANK);
                    return true;
                } else if (!wanting && tape.kind == CLOSE && opened > 0) {
                    settlePending(OR_RANK);
                    pendings--;
                    opened--;
                } else if (!wanting) {
                    if (!joins(latch == NONE)) {
                        return false;
                    }
                    wanting = true;
                } else if (tape.kind == OPEN || tape.kind == NOT) {
                    if (!prefix()) {
                        return false;
                    }
                } else {
                    if (latch == NONE ? !lawLeaf() : !leanLeaf()) {
                        return false;
                    }
                    wanting = false;
                }
                tape.advance();
            }
            return fails(WRONG_TOKEN);
        }

        private boolean prefix() {
            if (tape.kind == OPEN) {
                if (opened >= MOST_OPEN) {
                    return fails(TOO_MUCH);
                }
                opened++;
                addPending(OPEN);
                return true;
            }
            // A not can't stand behind a comparison or a sign: these join closer than it does.
            if (pendings > 0 && rank(pending[pendings - 1]) > NOT_RANK) {
                return fails(WRONG_TOKEN);
            }
            if (!counts()) {
                return false;
            }
            addPending(NOT);
            return true;
        }

        private boolean joins(boolean ofLaw) {
            int kind = tape.kind;
            int rank = rank(kind);
            if (rank == 0 || kind == NOT || !ofLaw && rank >= COMPARE_RANK) {
                return fails(WRONG_TOKEN);
            }
            settlePending(rank == COMPARE_RANK ? rank + 1 : rank);
            // Two comparisons without brackets can't stand behind one another.
            if (rank == COMPARE_RANK && pendings > 0 && rank(pending[pendings - 1]) == COMPARE_RANK) {
                return fails(WRONG_TOKEN);
            }
            if (!counts()) {
                return false;
            }
            addPending(kind);
            return true;
        }

        private boolean counts() {
            if (counted >= MOST_KNOTS) {
                return fails(TOO_MUCH);
            }
            counted++;
            return true;
        }

        private void addPending(int kind) {
            if (pendings < pending.length) {
                pending[pendings] = kind;
                pendings++;
            }
        }

        /** What joins as closely as that rank, or closer, has both its sides by now. */
        private void settlePending(int rank) {
            while (pendings > 0 && rank(pending[pendings - 1]) >= rank) {
                pendings--;
                door.knots.add(pending[pendings], 0);
            }
        }

        private boolean lawLeaf() {
            if (tape.kind != NUMBER && (tape.kind < WORN || tape.kind > MINUTE)) {
                return fails(WRONG_TOKEN);
            }
            if (!counts() || tape.kind == NUMBER && !numberTo(9999)) {
                return false;
            }
            door.knots.add(tape.kind, tape.value);
            return true;
        }

        private boolean leanLeaf() {
            if (tape.kind < UP || tape.kind > AS) {
                return fails(WRONG_TOKEN);
            }
            asked = tape.kind;
            return counts();
        }

        /** Reads what stands behind up, down, many, as. */
        private boolean asks(int latch) {
            int kind = asked;
            asked = NONE;
            if (kind == MANY ? !numberTo(8) : !toldLatch()) {
                return false;
            }
            if (kind == MANY) {
                door.knots.add(MANY, tape.value);
                return true;
            }
            int other = door.numberOf(tape.value);
            return kind == AS ? asOther(latch, other) : onOther(latch, other, kind);
        }

        private boolean onOther(int latch, int other, int kind) {
            if (other == latch) {
                return fails(ON_ITSELF);
            }
            door.addLeant(latch, 1 << other);
            door.knots.add(kind, other);
            return true;
        }

        private boolean asOther(int latch, int other) {
            if (!door.doesLean(other)) {
                return fails(NOT_TOLD);
            }
            int leant = door.leantOn(other);
            if ((leant >> latch & 1) != 0) {
                return fails(ON_ITSELF);
            }
            door.addLeant(latch, leant);
            door.knots.add(AS, other);
            return true;
        }
    }

    /** What a TEXT tells. */
    private static final class Door {
        private int lines;
        private int latches;
        private int startRow;
        private final int[] names = new int[MOST_LATCHES];
        private int leans;
        private int leaning;
        private final int[] leanOrder = new int[MOST_LATCHES];
        private final int[] leanEnds = new int[2 * MOST_LATCHES];
        private final int[] leant = new int[MOST_LATCHES];
        private final int[] open = new int[MOST_ROWS];
        private int pushes;
        private final int[] pushLatches = new int[MOST_PUSHES];
        private final int[] pushMinutes = new int[MOST_PUSHES];
        private int oils;
        private final int[] oilMinutes = new int[MOST_OILS];
        private int rust;
        private int seed;
        private final int[] lawEnds = new int[2 * LAWS];
        private final Knots knots = new Knots();
        private final Scene scene = new Scene();

        private void clear() {
            lines = 0;
            latches = 0;
            startRow = 0;
            leans = 0;
            leaning = 0;
            Arrays.fill(leant, 0);
            pushes = 0;
            oils = 0;
            rust = 0;
            seed = 0;
            Arrays.fill(lawEnds, 0);
            knots.size = 0;
        }

        private boolean has(int latch) {
            return latch >= 0 && latch < latches && latch < MOST_LATCHES;
        }

        private boolean hasRow(int row) {
            return row >= 0 && row < 1 << latches && row < MOST_ROWS;
        }

        private int numberOf(int name) {
            for (int latch = 0; latch < latches && latch < MOST_LATCHES; latch++) {
                if (names[latch] == name) {
                    return latch;
                }
            }
            return NONE;
        }

        private void addLatch(int name, int up) {
            if (latches < MOST_LATCHES) {
                names[latches] = name;
                startRow |= up << latches;
                latches++;
            }
        }

        private boolean doesLean(int latch) {
            return latch >= 0 && latch < MOST_LATCHES && (leaning >> latch & 1) != 0;
        }

        private int leantOn(int latch) {
            return latch >= 0 && latch < MOST_LATCHES ? leant[latch] : 0;
        }

        private void addLeant(int latch, int others) {
            if (latch >= 0 && latch < MOST_LATCHES) {
                leant[latch] |= others;
            }
        }

        private void addLean(int latch, int from) {
            if (has(latch) && leans < MOST_LATCHES) {
                leanEnds[2 * latch] = from;
                leanEnds[2 * latch + 1] = knots.size;
                leanOrder[leans] = latch;
                leans++;
                leaning |= 1 << latch;
            }
        }

        private void addPush(int latch, int minute) {
            if (pushes < MOST_PUSHES) {
                pushLatches[pushes] = latch;
                pushMinutes[pushes] = minute;
                pushes++;
            }
        }

        private void addOil(int minute) {
            if (oils < MOST_OILS) {
                oilMinutes[oils] = minute;
                oils++;
            }
        }

        private boolean oiled(int minute) {
            for (int oil = 0; oil < oils && oil < MOST_OILS; oil++) {
                if (oilMinutes[oil] == minute) {
                    return true;
                }
            }
            return false;
        }

        private boolean hasLaw(int law) {
            return law >= 0 && law < LAWS && lawEnds[2 * law + 1] > lawEnds[2 * law];
        }

        private void addLaw(int law, int from) {
            if (law >= 0 && law < LAWS) {
                lawEnds[2 * law] = from;
                lawEnds[2 * law + 1] = knots.size;
            }
        }

        private int all() {
            return (1 << latches) - 1;
        }

        /** Works out once for each ROW which LATCHES could be MOVED in it. */
        private void settle() {
            for (int row = 0; row < 1 << latches && row < MOST_ROWS; row++) {
                int ups = Integer.bitCount(row);
                // many leaves out the LATCH that LEANS, behind as, too: if that is up, others are one fewer.
                open[row] = openBy(row, ups) & ~row | openBy(row, ups - 1) & row;
            }
        }

        /**
         * The LATCHES whose LEANING is so in a ROW, were so many others up. By leanOrder, what an
         * as asks for has been worked out by then, for the same others.
         */
        private int openBy(int row, int others) {
            scene.row = row;
            scene.others = others;
            scene.open = all() & ~leaning;
            for (int i = 0; i < leans && i < MOST_LATCHES; i++) {
                int latch = leanOrder[i];
                if (has(latch) && knots.worth(leanEnds[2 * latch], leanEnds[2 * latch + 1], scene) != 0) {
                    scene.open |= 1 << latch;
                }
            }
            return scene.open;
        }

        private int movable(int row, int sealed) {
            return hasRow(row) ? open[row] & ~sealed : 0;
        }
    }

    /** What leaves of F and E are asked about. */
    private static final class Scene {
        private int row;
        private int latch;
        private int others;
        private int open;
        private int worn;
        private int seals;
        private int tired;
        private int minute;

        private void look(State state, int at) {
            row = state.row;
            latch = at;
            worn = state.wornOf(at);
            seals = Integer.bitCount(state.sealed);
            tired = state.effort;
            minute = state.minute;
        }

        private int leaf(int kind, int value) {
            switch (kind) {
                case UP:
                    return row >> value & 1;
                case DOWN:
                    return ~row >> value & 1;
                case MANY:
                    return others >= value ? 1 : 0;
                case AS:
                    return open >> value & 1;
                case WORN:
                    return worn;
                case PLACE:
                    return latch;
                case UPS:
                    return Integer.bitCount(row);
                case SEALS:
                    return seals;
                case HIGH:
                    return row >> latch & 1;
                case TIRED:
                    return tired;
                case MINUTE:
                    return minute;
                default:
                    return value;
            }
        }
    }

    /** All KNOTS, each behind its sides, so that they are worked out along the row. */
    private static final class Knots {
        private static final long FARTHEST_VALUE = 1000000000000L;

        private final int[] kinds = new int[MOST_KNOTS];
        private final int[] values = new int[MOST_KNOTS];
        private final long[] stack = new long[MOST_KNOTS];
        private int size;

        private void add(int kind, int value) {
            if (size < MOST_KNOTS) {
                kinds[size] = kind;
                values[size] = value;
                size++;
            }
        }

        private long worth(int from, int to, Scene scene) {
            if (from < 0) {
                return ERROR;
            }
            int depth = 0;
            for (int at = from; at < to && at < MOST_KNOTS; at++) {
                int sides = sidesOf(kinds[at]);
                if (depth < sides || depth >= MOST_KNOTS) {
                    return ERROR;
                }
                depth -= sides;
                if (sides == 0) {
                    stack[depth] = scene.leaf(kinds[at], values[at]);
                } else if (sides == 1) {
                    stack[depth] = stack[depth] == 0 ? 1 : 0;
                } else if (depth + 1 < MOST_KNOTS) {
                    stack[depth] = joined(kinds[at], stack[depth], stack[depth + 1]);
                }
                if (stack[depth] == ERROR) {
                    return ERROR;
                }
                depth++;
            }
            return depth == 1 ? stack[0] : ERROR;
        }

        private static int sidesOf(int kind) {
            if (kind == NOT) {
                return 1;
            }
            return rank(kind) == 0 ? 0 : 2;
        }

        private static long joined(int kind, long a, long b) {
            switch (kind) {
                case OR:
                    return a != 0 || b != 0 ? 1 : 0;
                case AND:
                    return a != 0 && b != 0 ? 1 : 0;
                case LESS:
                    return a < b ? 1 : 0;
                case AT_MOST:
                    return a <= b ? 1 : 0;
                case EQUAL:
                    return a == b ? 1 : 0;
                case UNLIKE:
                    return a != b ? 1 : 0;
                case AT_LEAST:
                    return a >= b ? 1 : 0;
                case MORE:
                    return a > b ? 1 : 0;
                case PLUS:
                    return within(a + b);
                case MINUS:
                    return within(a - b);
                case TIMES:
                    return product(a, b);
                case OVER:
                    return b == 0 ? ERROR : a / b;
                default:
                    return ERROR;
            }
        }

        private static long within(long value) {
            return value > FARTHEST_VALUE || value < -FARTHEST_VALUE ? ERROR : value;
        }

        /** Tests by division, as the product itself may be beyond a long. */
        private static long product(long a, long b) {
            long sizeA = a < 0 ? -a : a;
            long sizeB = b < 0 ? -b : b;
            return sizeA != 0 && sizeB > FARTHEST_VALUE / sizeA ? ERROR : a * b;
        }
    }

    /** How the LATCHES are, and what was done so far. */
    private static final class State {
        private int minute;
        private int row;
        private int sealed;
        private int effort;
        private int vain;
        private long number;
        private final int[] worn = new int[MOST_LATCHES];

        private void begin(Door door) {
            minute = 0;
            row = door.startRow;
            sealed = 0;
            effort = 0;
            vain = 0;
            number = door.seed;
            Arrays.fill(worn, 0);
        }

        private void take(State other) {
            minute = other.minute;
            row = other.row;
            sealed = other.sealed;
            effort = other.effort;
            vain = other.vain;
            number = other.number;
            System.arraycopy(other.worn, 0, worn, 0, MOST_LATCHES);
        }

        private int wornOf(int latch) {
            return latch >= 0 && latch < MOST_LATCHES ? worn[latch] : 0;
        }

        private void wear(int latch, int times) {
            if (latch >= 0 && latch < MOST_LATCHES) {
                worn[latch] = times;
            }
        }

        private int wornInAll() {
            int sum = 0;
            for (int times : worn) {
                sum += times;
            }
            return sum;
        }
    }

    /** Lets MINUTES go by: with numbers or without, as told or otherwise. */
    private static final class Clock {
        private final Scene scene = new Scene();
        private boolean drawing;
        private int otherwise = NONE;
        private int unpushed = NONE;

        private void asItGoes() {
            drawing = false;
            otherwise = NONE;
            unpushed = NONE;
        }

        private void drawn() {
            asItGoes();
            drawing = true;
        }

        private void otherwise(int what, int latch) {
            asItGoes();
            otherwise = what;
            unpushed = what == UNPUSHED ? latch : NONE;
        }

        private void pass(Door door, State state, int minutes) {
            for (int passed = 0; passed < minutes; passed++) {
                if (state.minute <= LAST_TOLD_MINUTE) {
                    passOne(door, state);
                }
                state.minute++;
            }
        }

        private void passOne(Door door, State state) {
            if (otherwise != UNOILED && door.oiled(state.minute)) {
                state.sealed = 0;
            }
            int times = otherwise == TWICE ? 2 : 1;
            for (int push = 0; push < door.pushes && push < MOST_PUSHES; push++) {
                int latch = door.pushLatches[push];
                if (door.pushMinutes[push] != state.minute || latch == unpushed) {
                    continue;
                }
                for (int time = 0; time < times; time++) {
                    if (!pushes(door, state, latch)) {
                        state.vain++;
                    }
                }
            }
        }

        /** Whether the LATCH could be MOVED; all that comes of that PUSH is done then. */
        private boolean pushes(Door door, State state, int latch) {
            int movable = otherwise == UNLEANT ? door.all() & ~state.sealed : door.movable(state.row, state.sealed);
            if (!door.has(latch) || (movable >> latch & 1) == 0) {
                return false;
            }
            long more = limited(worthOf(door, state, EFFORT_LAW, latch), 999, 1);
            state.row ^= 1 << latch;
            state.effort = (int) Math.min(99999, state.effort + more);
            state.wear(latch, Math.min(999, state.wornOf(latch) + 1));
            if (otherwise != UNSEALED) {
                long sealing = worthOf(door, state, SEAL_LAW, latch);
                long eating = limited(worthOf(door, state, EAT_LAW, latch), 100, door.rust);
                // The number is drawn first: it is, whatever the law of sealing says.
                if (rusts(state, eating) || sealing != 0 && sealing != ERROR) {
                    state.sealed |= 1 << latch;
                }
            }
            return true;
        }

        private boolean rusts(State state, long odds) {
            if (odds <= 0 || odds >= 100) {
                return odds >= 100;
            }
            if (!drawing) {
                return odds >= 50;
            }
            state.number = state.number * 1103515245L + 12345L & 0x7FFFFFFFL;
            return state.number / 65536 % 100 < odds;
        }

        private static long limited(long value, long most, long without) {
            if (value == ERROR) {
                return without;
            }
            return Math.max(0, Math.min(most, value));
        }

        /** E of a law; an ERROR without one. */
        private long worthOf(Door door, State state, int law, int latch) {
            if (!door.hasLaw(law)) {
                return ERROR;
            }
            scene.look(state, latch);
            return door.knots.worth(door.lawEnds[2 * law], door.lawEnds[2 * law + 1], scene);
        }
    }

    /**
     * How it was ahead of the latest pushing, forcing, sealing by call. Such a call changes nothing but
     * the ROW, what is SEALED, EFFORT, and how often its own LATCH is WORN, so only these are kept.
     */
    private static final class Undos {
        private final int[] rows = new int[MOST_UNDONE];
        private final int[] seals = new int[MOST_UNDONE];
        private final int[] efforts = new int[MOST_UNDONE];
        private final int[] latches = new int[MOST_UNDONE];
        private final int[] timesWorn = new int[MOST_UNDONE];
        private int oldest;
        private int size;

        private void clear() {
            oldest = 0;
            size = 0;
        }

        private void remember(State state, int latch) {
            if (size == MOST_UNDONE) {
                oldest = Math.floorMod(oldest + 1, MOST_UNDONE);
                size--;
            }
            int at = Math.floorMod(oldest + size, MOST_UNDONE);
            rows[at] = state.row;
            seals[at] = state.sealed;
            efforts[at] = state.effort;
            latches[at] = latch;
            timesWorn[at] = state.wornOf(latch);
            size++;
        }

        private int takeBack(State state) {
            if (size == 0) {
                return NONE;
            }
            size--;
            int at = Math.floorMod(oldest + size, MOST_UNDONE);
            state.row = rows[at];
            state.sealed = seals[at];
            state.effort = efforts[at];
            state.wear(latches[at], timesWorn[at]);
            return size;
        }
    }

    /** The ROWS and the MOVES between them. */
    private static final class Paths {
        private static final int MOST_WAYS = 1000000000;
        // Each count of LATCHES that can be MOVED divides it, so odds stay whole numbers.
        private static final int ALL_ALIKE = 840;

        private final int[] moves = new int[MOST_ROWS];
        private final int[] steps = new int[MOST_ROWS];
        private final int[] order = new int[MOST_ROWS];
        private final int[] marks = new int[MOST_ROWS];
        private final long[] sums = new long[MOST_ROWS];
        private final long[] nextSums = new long[MOST_ROWS];
        private int latches;
        private int rows;
        private int start;
        private int found;
        private int barredRow = NONE;
        private int stillLatches;
        private int easedLatches;

        private void lay(Door door, int sealed) {
            latches = door.latches;
            rows = Math.min(MOST_ROWS, 1 << latches);
            for (int row = 0; row < rows; row++) {
                moves[row] = door.movable(row, sealed);
            }
            bar(NONE, 0, 0);
        }

        /** From now on: a ROW that is not had, LATCHES that aren't MOVED, some that LEAN on nothing. */
        private void bar(int row, int still, int eased) {
            barredRow = row;
            stillLatches = still;
            easedLatches = eased;
        }

        private boolean has(int row) {
            return row >= 0 && row < rows && row < MOST_ROWS;
        }

        private boolean isMovable(int row, int latch) {
            return has(row) && (moves[row] >> latch & 1) != 0;
        }

        /** By how few MOVES, as the latest spread found; NONE, if it can't be had. */
        private int stepsTo(int row) {
            return has(row) ? steps[row] : NONE;
        }

        private boolean isHad(int row) {
            return stepsTo(row) != NONE;
        }

        /** Finds all ROWS that can be had from one, nearest first, and by how few MOVES each. */
        private void spread(int from) {
            Arrays.fill(steps, NONE);
            found = 0;
            if (!has(from)) {
                return;
            }
            start = from;
            steps[from] = 0;
            order[0] = from;
            found = 1;
            for (int head = 0; head < found && head < MOST_ROWS; head++) {
                int row = order[head];
                int can = (moves[row] | easedLatches) & ~stillLatches;
                for (int latch = 0; latch < latches; latch++) {
                    if ((can >> latch & 1) != 0) {
                        finds(row ^ 1 << latch, steps[row] + 1);
                    }
                }
            }
        }

        private void finds(int row, int far) {
            if (row != barredRow && has(row) && steps[row] == NONE && found < MOST_ROWS) {
                steps[row] = far;
                order[found] = row;
                found++;
            }
        }

        /** Of a row of fewest MOVES: whether this MOVE may be one. */
        private boolean leadsOn(int row, int latch) {
            return isMovable(row, latch) && isHad(row) && stepsTo(row ^ 1 << latch) == stepsTo(row) + 1;
        }

        private int firstTo(int target) {
            if (!isHad(target) || target == start) {
                return NOT_SO;
            }
            // By ROW: the LATCHES by which fewest MOVES to it can begin.
            Arrays.fill(marks, 0);
            for (int i = 0; i < found && i < MOST_ROWS; i++) {
                int row = order[i];
                for (int latch = 0; latch < latches; latch++) {
                    if (leadsOn(row, latch)) {
                        marks[row ^ 1 << latch] |= row == start ? 1 << latch : marks[row];
                    }
                }
            }
            for (int latch = 0; latch < latches; latch++) {
                if ((marks[target] >> latch & 1) != 0) {
                    return latch;
                }
            }
            return NOT_SO;
        }

        private int waysTo(int target) {
            if (!isHad(target) || !has(start)) {
                return 0;
            }
            Arrays.fill(sums, 0);
            sums[start] = 1;
            for (int i = 0; i < found && i < MOST_ROWS; i++) {
                int row = order[i];
                for (int latch = 0; latch < latches; latch++) {
                    if (leadsOn(row, latch)) {
                        int to = row ^ 1 << latch;
                        sums[to] = Math.min(MOST_WAYS, sums[to] + sums[row]);
                    }
                }
            }
            return (int) sums[target];
        }

        private int farthestRow() {
            int farthest = start;
            for (int row = 0; row < rows; row++) {
                // Of several, the least has come first.
                if (stepsTo(row) > stepsTo(farthest)) {
                    farthest = row;
                }
            }
            return farthest;
        }

        private int width(int now) {
            spread(now);
            int hadRows = found;
            System.arraycopy(order, 0, marks, 0, MOST_ROWS);
            int width = 0;
            for (int i = 0; i < hadRows && i < MOST_ROWS; i++) {
                spread(marks[i]);
                width = Math.max(width, stepsTo(farthestRow()));
            }
            return width;
        }

        /** No LATCH LEANS on itself, so each MOVE has its way back: a spread finds a whole part. */
        private int partsInAll() {
            Arrays.fill(marks, 0);
            int parts = 0;
            for (int row = 0; row < rows; row++) {
                if (marks[row] == 0) {
                    parts++;
                    spread(row);
                    markFound();
                }
            }
            return parts;
        }

        private void markFound() {
            for (int i = 0; i < found && i < MOST_ROWS; i++) {
                marks[order[i]] = 1;
            }
        }

        /** The k-th ROW of PAST. */
        private int narrow(int now, int target, int k) {
            spread(now);
            if (!isHad(target)) {
                return NONE;
            }
            // A ROW on each way is on any way of fewest MOVES: no other ones are tried.
            int between = Math.min(stepsTo(target) - 1, MOST_ROWS);
            int at = target;
            for (int i = between; i > 0; i--) {
                at = oneBefore(at);
                marks[i - 1] = at;
            }
            int left = k;
            for (int i = 0; i < between; i++) {
                bar(marks[i], 0, 0);
                spread(now);
                if (!isHad(target)) {
                    if (left == 0) {
                        return marks[i];
                    }
                    left--;
                }
            }
            return NOT_SO;
        }

        private int oneBefore(int row) {
            for (int latch = 0; latch < latches; latch++) {
                if (leadsOn(row ^ 1 << latch, latch)) {
                    return row ^ 1 << latch;
                }
            }
            return row;
        }

        private int needed(int now, int target) {
            spread(now);
            if (!isHad(target)) {
                return NOT_SO;
            }
            int needed = 0;
            for (int latch = 0; latch < latches; latch++) {
                bar(NONE, 1 << latch, 0);
                spread(now);
                if (!isHad(target)) {
                    needed |= 1 << latch;
                }
            }
            return needed;
        }

        private int stepsToMove(int latch) {
            for (int i = 0; i < found && i < MOST_ROWS; i++) {
                if (isMovable(order[i], latch)) {
                    return stepsTo(order[i]) + 1;
                }
            }
            return NOT_SO;
        }

        /** Only sets of LATCHES that LEAN on something and aren't SEALED are tried: others are of no use. */
        private int eased(int now, int target, int sealed, int leaning) {
            for (int size = 0; size <= latches; size++) {
                for (int set = 0; set < rows; set++) {
                    if ((set & ~leaning | set & sealed) == 0 && Integer.bitCount(set) == size) {
                        bar(NONE, sealed, set);
                        spread(now);
                        if (isHad(target)) {
                            return set;
                        }
                    }
                }
            }
            return NOT_SO;
        }

        /** The first LATCH by which who begins wins; NOT_SO, if he can't. */
        private int winningLatch(int now) {
            int winning = NOT_SO;
            if (!has(now)) {
                return winning;
            }
            // By ROW: 1, if who is to MOVE there wins. Each MOVE up leads to a greater ROW.
            for (int row = rows - 1; row >= now; row--) {
                winning = NOT_SO;
                for (int latch = latches - 1; latch >= 0; latch--) {
                    int to = row | 1 << latch;
                    if (to != row && isMovable(row, latch) && has(to) && marks[to] == 0) {
                        winning = latch;
                    }
                }
                marks[row] = winning == NOT_SO ? 0 : 1;
            }
            return winning;
        }

        /** How likely a ROW is had by n drunken MOVES, of ALL_ALIKE to the n. */
        private long drunkTo(int now, int target, int n) {
            if (!has(now) || !has(target)) {
                return 0;
            }
            Arrays.fill(sums, 0);
            sums[now] = 1;
            for (int i = 0; i < n; i++) {
                Arrays.fill(nextSums, 0);
                for (int row = 0; row < rows; row++) {
                    if (sums[row] != 0) {
                        spill(row);
                    }
                }
                System.arraycopy(nextSums, 0, sums, 0, MOST_ROWS);
            }
            return sums[target];
        }

        private void spill(int row) {
            int choices = Integer.bitCount(moves[row]);
            if (choices == 0) {
                nextSums[row] += sums[row] * ALL_ALIKE;
                return;
            }
            long each = sums[row] * (ALL_ALIKE / choices);
            for (int latch = 0; latch < latches; latch++) {
                int to = row ^ 1 << latch;
                if (isMovable(row, latch) && has(to)) {
                    nextSums[to] += each;
                }
            }
        }
    }

    /** NOTES and STRIKES, and what they tell of how a LATCH LEANS. */
    private static final class Notes {
        private final int[] latches = new int[MOST_NOTES];
        private final int[] subjects = new int[MOST_NOTES];
        private final boolean[] coulds = new boolean[MOST_NOTES];
        private final boolean[] struck = new boolean[MOST_NOTES];
        private int size;
        private int knownBy = NONE;

        private void clear() {
            size = 0;
            knownBy = NONE;
        }

        /** Adds a NOTE of a ROW, or, if the LATCH is NONE, a STRIKE of a number. */
        private int add(int latch, int subject, boolean could) {
            if (size >= MOST_NOTES) {
                return NONE;
            }
            latches[size] = latch;
            subjects[size] = subject;
            coulds[size] = could;
            size++;
            return size - 1;
        }

        private int counted() {
            return knownBy == NONE ? size : Math.min(knownBy, size);
        }

        /** A STRIKE is always later than what it strikes: from the last one on, each is settled. */
        private void settleStrikes(int counted) {
            for (int i = 0; i < MOST_NOTES; i++) {
                struck[i] = false;
            }
            for (int i = counted - 1; i >= 0; i--) {
                int subject = subjects[i];
                if (latches[i] == NONE && !struck[i] && subject >= 0 && subject < MOST_NOTES) {
                    struck[subject] = true;
                }
            }
        }

        private int fitting(int latch, int latchCount) {
            int counted = counted();
            settleStrikes(counted);
            int fitting = 0;
            for (int leaning = 0; leaning <= 2 * latchCount; leaning++) {
                boolean ofItself = leaning > 0 && (leaning - 1) / 2 == latch;
                if (!ofItself && agrees(leaning, latch, counted)) {
                    fitting |= 1 << leaning;
                }
            }
            return fitting;
        }

        private boolean agrees(int leaning, int latch, int counted) {
            for (int i = 0; i < counted && i < MOST_NOTES; i++) {
                if (latches[i] == latch && !struck[i] && lets(leaning, subjects[i]) != coulds[i]) {
                    return false;
                }
            }
            return true;
        }

        /** Whether a LATCH with this LEANING could be MOVED in a ROW. */
        private static boolean lets(int leaning, int row) {
            if (leaning == 0) {
                return true;
            }
            int up = row >> (leaning - 1) / 2 & 1;
            return up == leaning % 2;
        }

        private int bestAsked(int latch, int latchCount, int what) {
            int fitting = fitting(latch, latchCount);
            int all = Integer.bitCount(fitting);
            int least = all + 1;
            int best = 0;
            for (int row = 0; row < 1 << latchCount; row++) {
                int letting = 0;
                for (int leaning = 0; leaning <= 2 * latchCount; leaning++) {
                    if ((fitting >> leaning & 1) != 0 && lets(leaning, row)) {
                        letting++;
                    }
                }
                int worst = Math.max(letting, all - letting);
                if (worst < least) {
                    least = worst;
                    best = row;
                }
            }
            return what == 0 ? best : least;
        }
    }
}
