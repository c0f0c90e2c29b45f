import java.util.ArrayList;
import java.util.Arrays;

/** Mill governors that go by beats: texts become modules, modules run as governors and are searched. */
public final class BeatMill {
    public static final int NONE = -1, BAD = -1, STATE = -2, FULL = -3, BEYOND = -4;

    private static final int TAPE_BYTES = 800, FEED_BYTES = 20;
    private static final int MOST_MODULES = 4, MOST_GOVERNORS = 8;
    private static final int MOST_NUMBER = 1000000000;
    private static final int FAULT_BASE = -10, NO_SUCH = -9;

    private final byte[] tape;
    private int tapeLength;
    private final ArrayList<Compiled> modules;
    private final ArrayList<Governor> governors;
    private final Reader reader;
    private final Weaver weaver;
    private int latestFault;
    private int againstState;
    private int againstMove;

    public BeatMill() {
        tape = new byte[TAPE_BYTES];
        modules = new ArrayList<>();
        governors = new ArrayList<>();
        Tree tree = new Tree();
        reader = new Reader(tape, tree);
        weaver = new Weaver(tree);
        againstState = NONE;
        againstMove = NONE;
    }

    public int feed(int a, int b, int c, int d, int e) {
        if (tapeLength + FEED_BYTES > TAPE_BYTES) {
            return FULL;
        }
        append(a);
        append(b);
        append(c);
        append(d);
        append(e);
        return tapeLength;
    }

    private void append(int four) {
        for (int shift = 24; shift >= 0 && tapeLength < tape.length; shift -= 8) {
            tape[tapeLength] = (byte) (four >>> shift);
            tapeLength++;
        }
    }

    public int end(int n) {
        if (n < 0 || n > tapeLength) {
            return BAD;
        }
        int had = tapeLength;
        tapeLength = n;
        return had;
    }

    public int compile() {
        if (modules.size() >= MOST_MODULES) {
            return FULL;
        }
        Compiled made = reader.read(tapeLength);
        tapeLength = 0;
        latestFault = reader.tokens.fault;
        if (made == null) {
            return FAULT_BASE - reader.tokens.faultPlace;
        }
        weaver.weave(made);
        modules.add(made);
        return modules.size() - 1;
    }

    public int fault() {
        return latestFault;
    }

    public int module(int m, int what) {
        Compiled made = moduleAt(m);
        if (made == null) {
            return BAD;
        }
        switch (what) {
            case 0:
                return made.signals;
            case 1:
                return made.inputs;
            case 2:
                return Integer.bitCount(made.outputMask);
            case 3:
                return made.variables;
            case 4:
                return made.parts.size();
            case 5:
                return made.pauses;
            case 6:
                return made.ifs;
            case 7:
                return made.depth;
            default:
                return BAD;
        }
    }

    public int part(int m, int i) {
        Compiled made = moduleAt(m);
        if (made == null || !made.hasPart(i)) {
            return BAD;
        }
        return made.parts.get(i).place;
    }

    public int governor(int m) {
        Compiled made = moduleAt(m);
        if (made == null) {
            return BAD;
        }
        if (governors.size() >= MOST_GOVERNORS) {
            return FULL;
        }
        governors.add(new Governor(made, m));
        return governors.size() - 1;
    }

    public int give(int g, int i, boolean given, int v) {
        Governor governor = governorAt(g);
        if (governor == null || i < 0 || i >= governor.plan.inputs) {
            return BAD;
        }
        if (v < -MOST_NUMBER || v > MOST_NUMBER) {
            return BAD;
        }
        if (governor.hasEnded()) {
            return STATE;
        }
        governor.take(i, given, v);
        return 1;
    }

    public int beat(int g) {
        Governor governor = governorAt(g);
        if (governor == null) {
            return BAD;
        }
        if (governor.hasEnded()) {
            return STATE;
        }
        return governor.react();
    }

    public int present(int g, int signal) {
        Governor governor = governorAt(g);
        if (governor == null || !governor.plan.hasSignal(signal)) {
            return BAD;
        }
        return governor.shown >>> signal & 1;
    }

    public int value(int g, int signal) {
        Governor governor = governorAt(g);
        if (governor == null || !governor.plan.hasSignal(signal)) {
            return 0;
        }
        return governor.now[Governor.NUMBERS + signal];
    }

    public int variable(int g, int v) {
        Governor governor = governorAt(g);
        if (governor == null || v < 0 || v >= governor.plan.variables) {
            return 0;
        }
        return governor.now[Governor.VARIABLES + v];
    }

    public int wire(int g, int i, int what) {
        Governor governor = governorAt(g);
        if (governor == null || !governor.plan.hasPart(i)) {
            return BAD;
        }
        if (what < 0 || what >= Governor.WIRES) {
            return BAD;
        }
        return governor.wireOf(i, what);
    }

    public int told(int g, int what) {
        Governor governor = governorAt(g);
        if (governor == null) {
            return BAD;
        }
        switch (what) {
            case 0:
                return governor.now[Governor.BEATS];
            case 1:
                return Integer.bitCount(governor.now[Governor.SET]);
            case 2:
                return governor.now[Governor.ENDED];
            case 3:
                return governor.answer;
            case 4:
                return governor.failure;
            case 5:
                return governor.failedPart;
            case 6:
                return governor.planNumber;
            case 7:
                return governor.keptCount;
            default:
                return BAD;
        }
    }

    public int paused(int g, int k) {
        Governor governor = governorAt(g);
        if (governor == null || k < 0 || k >= governor.plan.pauses) {
            return BAD;
        }
        return governor.now[Governor.SET] >>> k & 1;
    }

    public int keep(int g) {
        Governor governor = governorAt(g);
        if (governor == null) {
            return BAD;
        }
        if (governor.keptCount >= Governor.MOST_KEPT) {
            return FULL;
        }
        governor.store();
        return governor.keptCount;
    }

    public int back(int g) {
        Governor governor = governorAt(g);
        if (governor == null) {
            return BAD;
        }
        if (governor.keptCount == 0) {
            return STATE;
        }
        governor.restore();
        return governor.keptCount;
    }

    public int same(int a, int b) {
        Governor one = governorAt(a);
        Governor other = governorAt(b);
        if (one == null || other == null) {
            return BAD;
        }
        if (one.planNumber != other.planNumber) {
            return STATE;
        }
        return one.likeOther(other) ? 1 : 0;
    }

    public int search(int m) {
        if (moduleAt(m) == null) {
            return BAD;
        }
        Search found = searchOf(m);
        return found == null ? BEYOND : found.states;
    }

    public int move(int m, int state, int move, int what) {
        Search found = searchOf(m);
        if (found == null || !found.hasState(state) || move < 0 || move >= found.moves) {
            return NO_SUCH;
        }
        if (what == 0) {
            return found.next[state * found.moves + move];
        }
        return what == 1 ? found.shown[state * found.moves + move] : NO_SUCH;
    }

    public int classOf(int m, int state) {
        Search found = searchOf(m);
        if (found == null || !found.hasState(state)) {
            return NO_SUCH;
        }
        return found.group[state];
    }

    public int way(int m, int state, int i) {
        Search found = searchOf(m);
        if (found == null || !found.hasState(state)) {
            return NO_SUCH;
        }
        int steps = found.stepsTo(state);
        if (i == NONE) {
            return steps;
        }
        return i < 0 || i >= steps ? NO_SUCH : found.stepTo(state, steps - 1 - i);
    }

    public int never(int m, int signal) {
        Search found = searchOf(m);
        if (found == null || !found.plan.hasSignal(signal)) {
            return NO_SUCH;
        }
        return judge(found.firstAgainst(1 << signal, 0));
    }

    public int always(int m, int a, int b) {
        Search found = searchOf(m);
        if (found == null || !found.plan.hasSignal(a) || !found.plan.hasSignal(b)) {
            return NO_SUCH;
        }
        return judge(found.firstAgainst(1 << a, 1 << b));
    }

    private int judge(int counterexample) {
        if (counterexample == NONE) {
            return 1;
        }
        againstState = counterexample / Search.MOST_MOVES;
        againstMove = counterexample % Search.MOST_MOVES;
        return 0;
    }

    public int against(int what) {
        if (what == 0) {
            return againstState;
        }
        return what == 1 ? againstMove : BAD;
    }

    public int count(int what) {
        switch (what) {
            case 0:
                return modules.size();
            case 1:
                return governors.size();
            case 2:
                return tapeLength;
            default:
                return BAD;
        }
    }

    public int clear() {
        int were = modules.size();
        modules.clear();
        governors.clear();
        return were;
    }

    private Compiled moduleAt(int m) {
        return m < 0 || m >= modules.size() ? null : modules.get(m);
    }

    private Governor governorAt(int g) {
        return g < 0 || g >= governors.size() ? null : governors.get(g);
    }

    /** The search of a module, made when it is first asked for; null if there is none or it is beyond. */
    private Search searchOf(int m) {
        Compiled made = moduleAt(m);
        if (made == null) {
            return null;
        }
        if (made.search == null) {
            made.search = new Search(made);
            made.search.explore();
        }
        return made.search.beyond ? null : made.search;
    }

    /**
     * THE TAPE token by token: cut into tokens up to the first that is none, which is a FAULT only when it is come to.
     * A FAULT sticks and breaks the token that stands, so that all that reads unwinds.
     */
    private static final class Tokens {
        static final int BROKEN = 0, FINISH = 1, NAME = 2, NUMBER = 3, COLON = 4, BECOMES = 5, BESIDE = 6;
        static final int EQUAL = 7, UNEQUAL = 8, LESS = 9, AT_MOST = 10, GREATER = 11, AT_LEAST = 12;
        /** The kinds of single signs follow the order of SIGNS. */
        static final int SEMICOLON = 13, COMMA = 14, LEFT = 15, RIGHT = 16, LEFT_SQUARE = 17,
            RIGHT_SQUARE = 18, ASK = 19, PLUS = 20, MINUS = 21, TIMES = 22, OVER = 23, REST = 24;
        /** The kinds of keys follow the order of KEYS. */
        static final int INPUT = 30, OUTPUT = 31, SIGNAL = 32, ONE = 33, SUM = 34, MOST = 35, VAR = 36,
            NOTHING = 37, PAUSE = 38, HALT = 39, EMIT = 40, SUSTAIN = 41, LOOP = 42, END = 43,
            PRESENT = 44, THEN = 45, ELSE = 46, AWAIT = 47, IMMEDIATE = 48, ABORT = 49, WEAK = 50,
            WHEN = 51, SUSPEND = 52, EVERY = 53, DO = 54, TRAP = 55, IN = 56, EXIT = 57, IF = 58,
            AND = 59, OR = 60, NOT = 61, PRE = 62;
        static final int NO_TOKEN = 1, MISPLACED = 2, TOLD_BEFORE = 3, NOT_TOLD = 4, WRONG_EMIT = 5,
            TOO_MANY = 6, ENDS_AT_ONCE = 7, SHARED = 8;

        private static final String SIGNS = ";,()[]?+-*/%";
        private static final String KEYS = "input output signal one sum most var nothing pause halt emit sustain loop end present then else await immediate abort weak when suspend every do trap in exit if and or not pre ";
        private static final int KEY_COUNT = 33, MOST_LETTERS = 10, MOST_FIGURES = 6, MOST_OPEN = 15;

        private final byte[] tape;
        private final long[] keys;
        private int length;
        private int at;
        private final int[] kinds = new int[TAPE_BYTES + 1];
        private final int[] places = new int[TAPE_BYTES + 1];
        /** The letters of a WORD, or a NUMBER. */
        private final long[] contents = new long[TAPE_BYTES + 1];
        private int coming;
        private int open;
        int kind;
        int place;
        long content;
        int fault;
        int faultPlace;

        Tokens(byte[] tape) {
            this.tape = tape;
            keys = new long[KEY_COUNT];
            int key = 0;
            for (int i = 0; i < KEYS.length() && key < KEY_COUNT; i++) {
                if (KEYS.charAt(i) == ' ') {
                    key++;
                } else {
                    keys[key] = spelled(keys[key], KEYS.charAt(i));
                }
            }
        }

        void begin(int bytes) {
            length = Math.min(bytes, tape.length);
            at = 0;
            int last = -1;
            for (int i = 0; i < kinds.length && last != FINISH && last != BROKEN; i++) {
                last = cut(i);
            }
            coming = 0;
            open = 0;
            fault = 0;
            faultPlace = 0;
            advance();
        }

        /** Cuts the next token off the text: its kind. */
        private int cut(int i) {
            while (at < length && (byteAt(at) == ' ' || byteAt(at) == '\n')) {
                at++;
            }
            places[i] = at;
            int first = byteAt(at);
            if (at >= length) {
                kinds[i] = FINISH;
            } else if (isLetter(first)) {
                cutWord(i);
            } else if (isFigure(first)) {
                cutNumber(i);
            } else {
                kinds[i] = signKind(first);
            }
            return kinds[i];
        }

        /** Takes the token that stands and reads the next one. */
        void advance() {
            if (fault != 0 || coming >= kinds.length) {
                return;
            }
            kind = kinds[coming];
            place = places[coming];
            content = contents[coming];
            coming++;
            if (kind == BROKEN) {
                fault = NO_TOKEN;
                faultPlace = place;
            }
        }

        boolean accept(int wanted) {
            if (kind != wanted) {
                return false;
            }
            advance();
            return true;
        }

        void expect(int wanted) {
            if (kind == wanted) {
                advance();
            } else {
                fail(MISPLACED);
            }
        }

        void fail(int code) {
            if (fault == 0) {
                fault = code;
                faultPlace = place;
            }
            kind = BROKEN;
        }

        void failAt(int code, int where) {
            place = where;
            fail(code);
        }

        /** The token that stands now opens something; it is left for the caller to take. */
        void opens() {
            if (open >= MOST_OPEN) {
                fail(TOO_MANY);
            } else {
                open++;
            }
        }

        void closes() {
            open--;
        }

        private void cutWord(int i) {
            long code = 0;
            int letters = 0;
            while (at < length && isLetter(byteAt(at))) {
                code = spelled(code, byteAt(at));
                letters++;
                at++;
            }
            contents[i] = code;
            kinds[i] = letters > MOST_LETTERS ? BROKEN : NAME;
            for (int key = 0; key < KEY_COUNT && kinds[i] == NAME; key++) {
                if (keys[key] == code) {
                    kinds[i] = INPUT + key;
                }
            }
        }

        private void cutNumber(int i) {
            long number = 0;
            int figures = 0;
            while (at < length && isFigure(byteAt(at))) {
                number = number * 10 + byteAt(at) - '0';
                figures++;
                at++;
            }
            contents[i] = number;
            kinds[i] = figures > MOST_FIGURES ? BROKEN : NUMBER;
        }

        private int signKind(int first) {
            at++;
            int single = SIGNS.indexOf((char) first);
            if (single >= 0) {
                return SEMICOLON + single;
            }
            switch (first) {
                case ':':
                    return withNext('=', BECOMES, COLON);
                case '=':
                    return EQUAL;
                case '!':
                    return withNext('=', UNEQUAL, BROKEN);
                case '<':
                    return withNext('=', AT_MOST, LESS);
                case '>':
                    return withNext('=', AT_LEAST, GREATER);
                case '|':
                    return withNext('|', BESIDE, BROKEN);
                default:
                    return BROKEN;
            }
        }

        private int withNext(int second, int pair, int alone) {
            if (byteAt(at) != second) {
                return alone;
            }
            at++;
            return pair;
        }

        private int byteAt(int i) {
            return i < length ? tape[i] & 255 : 0;
        }

        private static long spelled(long code, int letter) {
            return code * 32 + letter - 'a' + 1;
        }

        private static boolean isLetter(int sign) {
            return sign >= 'a' && sign <= 'z';
        }

        private static boolean isFigure(int sign) {
            return sign >= '0' && sign <= '9';
        }
    }

    /** A module: what its text tells, its parts, and the circuit that they are woven into. */
    private static final class Compiled {
        static final int MOST_SIGNALS = 16, MOST_INPUTS = 4, MOST_VARIABLES = 6;

        final long[] signalName = new long[MOST_SIGNALS];
        final int[] role = new int[MOST_SIGNALS];
        /** How a signal's numbers come together: the kind of the key behind its ":", or 0 without one. */
        final int[] mix = new int[MOST_SIGNALS];
        final int[] inputAt = new int[MOST_INPUTS];
        final long[] variableName = new long[MOST_VARIABLES];
        final int[] beginning = new int[MOST_VARIABLES];
        final ArrayList<Part> parts = new ArrayList<>();
        final Circuit circuit = new Circuit();
        final Sums sums = new Sums();
        int signals;
        int inputs;
        int outputMask;
        int variables;
        int pauses;
        int ifs;
        int depth;
        /** The root of its kernel nodes. */
        int root;
        Search search;

        int signalNamed(long name) {
            for (int s = 0; s < signals; s++) {
                if (signalName[s] == name) {
                    return s;
                }
            }
            return NONE;
        }

        int variableNamed(long name) {
            for (int v = 0; v < variables; v++) {
                if (variableName[v] == name) {
                    return v;
                }
            }
            return NONE;
        }

        boolean isTold(long name) {
            return signalNamed(name) != NONE || variableNamed(name) != NONE;
        }

        boolean isFullFor(int toldRole) {
            if (toldRole == Tokens.VAR) {
                return variables >= MOST_VARIABLES;
            }
            return signals >= MOST_SIGNALS || toldRole == Tokens.INPUT && inputs >= MOST_INPUTS;
        }

        void addSignal(long name, int toldRole) {
            if (isFullFor(toldRole)) {
                return;
            }
            signalName[signals] = name;
            role[signals] = toldRole;
            circuit.addSignal(signals);
            if (toldRole == Tokens.INPUT) {
                inputAt[inputs] = signals;
                inputs++;
            }
            if (toldRole == Tokens.OUTPUT) {
                outputMask |= 1 << signals;
            }
            signals++;
        }

        void addVariable(long name) {
            if (isFullFor(Tokens.VAR)) {
                return;
            }
            variableName[variables] = name;
            variables++;
        }

        boolean hasSignal(int s) {
            return s >= 0 && s < signals;
        }

        boolean hasPart(int i) {
            return i >= 0 && i < parts.size();
        }
    }

    /** A part as it stands in the text. */
    private static final class Part {
        static final int IDLE = 0, EMIT = 1, ASSIGN = 2, IF = 3;

        final int place;
        /** The root of its kernel nodes. */
        int node;
        /** The FAULT that is told only when the whole text has been read. */
        int late;
        int task;
        /** The signal, variable or number of the if that the task is of. */
        int target;
        int sum;
        int otherSum;
        int relation;
        /** Its PAUSES, bit by bit. */
        int held;
        int go;
        int ends;
        int pauses;
        int exits;

        Part(int place) {
            this.place = place;
        }
    }

    /** Reads a text into a module; the limits on what is open keep its recursion low. */
    private static final class Reader {
        private static final int MOST_PARTS = 40, MOST_PAUSES = 24, MOST_BRANCHES = 8, MOST_TRAPS = 16;
        /** A trap that an abort or every is made of: no NAME has this code. */
        private static final long UNNAMED = 0;

        final Tokens tokens;
        private final Tree tree;
        private final long[] traps;
        private int trapCount;
        private int begunPauses;
        /** Variables, bit by bit, that are given a number and used in what is being read. */
        private int given;
        private int used;
        private Compiled made;

        Reader(byte[] tape, Tree tree) {
            tokens = new Tokens(tape);
            this.tree = tree;
            traps = new long[MOST_TRAPS];
        }

        /** The module of the text, or null: the tokens have its FAULT then. */
        Compiled read(int bytes) {
            made = new Compiled();
            trapCount = 0;
            begunPauses = 0;
            given = 0;
            used = 0;
            tree.begin();
            tokens.begin(bytes);
            readAllTold();
            made.root = readSeq(0);
            if (tokens.kind != Tokens.FINISH) {
                tokens.fail(Tokens.MISPLACED);
            }
            findLateFault();
            made.pauses = tree.pauses;
            return tokens.fault == 0 ? made : null;
        }

        private void findLateFault() {
            for (int i = 0; i < made.parts.size() && tokens.fault == 0; i++) {
                Part part = made.parts.get(i);
                if (part.late != 0) {
                    tokens.failAt(part.late, part.place);
                }
            }
        }

        private void readAllTold() {
            for (int i = 0; i < TAPE_BYTES; i++) {
                int kind = tokens.kind;
                if (kind == Tokens.VAR) {
                    readVariable();
                } else if (kind == Tokens.INPUT || kind == Tokens.OUTPUT || kind == Tokens.SIGNAL) {
                    readSignal(kind);
                } else {
                    return;
                }
                tokens.expect(Tokens.SEMICOLON);
            }
        }

        private void readSignal(int role) {
            tokens.advance();
            checkNewName(role);
            if (tokens.kind != Tokens.NAME) {
                return;
            }
            int signal = made.signals;
            made.addSignal(tokens.content, role);
            tokens.advance();
            if (tokens.accept(Tokens.COLON)) {
                int mix = tokens.kind;
                if (mix == Tokens.ONE || mix == Tokens.SUM || mix == Tokens.MOST) {
                    made.mix[signal] = mix;
                    tokens.advance();
                } else {
                    tokens.fail(Tokens.MISPLACED);
                }
            }
        }

        private void readVariable() {
            tokens.advance();
            checkNewName(Tokens.VAR);
            if (tokens.kind != Tokens.NAME) {
                return;
            }
            int variable = made.variables;
            made.addVariable(tokens.content);
            tokens.advance();
            tokens.expect(Tokens.BECOMES);
            boolean negative = tokens.accept(Tokens.MINUS);
            if (tokens.kind == Tokens.NUMBER) {
                made.beginning[variable] = (int) (negative ? -tokens.content : tokens.content);
            }
            tokens.expect(Tokens.NUMBER);
        }

        private void checkNewName(int role) {
            if (tokens.kind != Tokens.NAME) {
                tokens.fail(Tokens.MISPLACED);
            } else if (made.isTold(tokens.content)) {
                tokens.fail(Tokens.TOLD_BEFORE);
            } else if (made.isFullFor(role)) {
                tokens.fail(Tokens.TOO_MANY);
            }
        }

        private int readSeq(int depth) {
            int seq = tree.make(Tree.SEQ);
            tree.hang(seq, readPart(depth + 1));
            for (int i = 0; i < MOST_PARTS && tokens.accept(Tokens.SEMICOLON); i++) {
                tree.hang(seq, readPart(depth + 1));
            }
            return seq;
        }

        private int readPart(int depth) {
            int kind = tokens.kind;
            checkBegin(kind);
            if (tokens.fault != 0) {
                return Tree.MISSING;
            }
            Part part = new Part(tokens.place);
            made.parts.add(part);
            made.depth = Math.max(made.depth, depth);
            begunPauses += pausesOf(kind);
            if (staysOpen(kind)) {
                tokens.opens();
            }
            long word = tokens.content;
            tokens.advance();
            part.node = kind == Tokens.NAME ? readAssign(part, word) : readBody(kind, part, depth);
            if (staysOpen(kind)) {
                tokens.closes();
            }
            return part.node;
        }

        private void checkBegin(int kind) {
            if (kind == Tokens.NAME) {
                if (made.variableNamed(tokens.content) == NONE) {
                    tokens.fail(Tokens.NOT_TOLD);
                }
            } else if (!staysOpen(kind) && !standsAlone(kind)) {
                tokens.fail(Tokens.MISPLACED);
            }
            if (made.parts.size() >= MOST_PARTS || begunPauses + pausesOf(kind) > MOST_PAUSES) {
                tokens.fail(Tokens.TOO_MANY);
            }
        }

        private static boolean standsAlone(int kind) {
            return kind >= Tokens.NOTHING && kind <= Tokens.SUSTAIN || kind == Tokens.AWAIT || kind == Tokens.EXIT;
        }

        private static boolean staysOpen(int kind) {
            switch (kind) {
                case Tokens.LOOP:
                case Tokens.PRESENT:
                case Tokens.ABORT:
                case Tokens.WEAK:
                case Tokens.SUSPEND:
                case Tokens.EVERY:
                case Tokens.TRAP:
                case Tokens.IF:
                case Tokens.LEFT_SQUARE:
                    return true;
                default:
                    return false;
            }
        }

        private static int pausesOf(int kind) {
            switch (kind) {
                case Tokens.PAUSE:
                case Tokens.HALT:
                case Tokens.SUSTAIN:
                case Tokens.AWAIT:
                case Tokens.ABORT:
                case Tokens.WEAK:
                    return 1;
                case Tokens.EVERY:
                    return 3;
                default:
                    return 0;
            }
        }

        /** What stands behind the first token of a part. */
        private int readBody(int kind, Part part, int depth) {
            switch (kind) {
                case Tokens.PAUSE:
                    return tree.pauseNode();
                case Tokens.HALT:
                    return tree.halt();
                case Tokens.EMIT:
                    return readEmit(part);
                case Tokens.SUSTAIN:
                    return readSustain();
                case Tokens.LOOP:
                    return readLoop(part, depth);
                case Tokens.PRESENT:
                    return readChoice(readCondition(), depth);
                case Tokens.AWAIT:
                    boolean immediate = tokens.accept(Tokens.IMMEDIATE);
                    return tree.await(readCondition(), immediate);
                case Tokens.ABORT:
                    return readAbort(depth);
                case Tokens.WEAK:
                    return readWeak(depth);
                case Tokens.SUSPEND:
                    return readSuspend(depth);
                case Tokens.EVERY:
                    return readEvery(depth);
                case Tokens.TRAP:
                    return readTrap(depth);
                case Tokens.EXIT:
                    return readExit();
                case Tokens.IF:
                    return readChoice(readComparison(part), depth);
                case Tokens.LEFT_SQUARE:
                    return readBranches(part, depth);
                default:
                    return tree.make(Tree.NOTHING);
            }
        }

        private int readEmit(Part part) {
            int place = tokens.place;
            int signal = emittedSignal();
            tokens.advance();
            if (signal == NONE || tokens.fault != 0) {
                return Tree.MISSING;
            }
            boolean numbered = made.mix[signal] != 0;
            if (numbered != (tokens.kind == Tokens.LEFT)) {
                tokens.failAt(Tokens.WRONG_EMIT, place);
            } else if (numbered) {
                part.task = Part.EMIT;
                part.target = signal;
                part.sum = made.sums.length;
                readInBrackets();
                made.sums.add(Sums.STOP);
            }
            return tree.emit(signal);
        }

        private int readSustain() {
            int place = tokens.place;
            int signal = emittedSignal();
            tokens.advance();
            if (signal == NONE || tokens.fault != 0) {
                return Tree.MISSING;
            }
            if (made.mix[signal] != 0) {
                tokens.failAt(Tokens.WRONG_EMIT, place);
            }
            return tree.sustain(signal);
        }

        private int emittedSignal() {
            int signal = toldSignal();
            if (signal != NONE && made.role[signal] == Tokens.INPUT) {
                tokens.fail(Tokens.NOT_TOLD);
                return NONE;
            }
            return signal;
        }

        /** The signal that the token names, which is left for the caller to take. */
        private int toldSignal() {
            if (tokens.kind != Tokens.NAME) {
                tokens.fail(Tokens.MISPLACED);
                return NONE;
            }
            int signal = made.signalNamed(tokens.content);
            if (signal == NONE) {
                tokens.fail(Tokens.NOT_TOLD);
            }
            return signal;
        }

        private int readExit() {
            if (tokens.kind != Tokens.NAME) {
                tokens.fail(Tokens.MISPLACED);
                return Tree.MISSING;
            }
            int within = trapsWithin(tokens.content);
            if (within == NONE) {
                tokens.fail(Tokens.NOT_TOLD);
                return Tree.MISSING;
            }
            tokens.advance();
            return tree.exit(within);
        }

        /** How many traps are within the named one at this place, NONE if it is not around. */
        private int trapsWithin(long name) {
            for (int within = 0; within < trapCount; within++) {
                if (traps[trapCount - 1 - within] == name) {
                    return within;
                }
            }
            return NONE;
        }

        private int readAssign(Part part, long word) {
            int variable = made.variableNamed(word);
            part.task = Part.ASSIGN;
            part.target = variable;
            given |= 1 << variable;
            tokens.expect(Tokens.BECOMES);
            part.sum = made.sums.length;
            readSum();
            made.sums.add(Sums.STOP);
            return tree.make(Tree.NOTHING);
        }

        private int readLoop(Part part, int depth) {
            int seq = readSeq(depth);
            if (tree.canEndAtOnce(seq)) {
                part.late = Tokens.ENDS_AT_ONCE;
            }
            tokens.expect(Tokens.END);
            return tree.wrap(Tree.LOOP, seq);
        }

        private int readChoice(int condition, int depth) {
            tokens.expect(Tokens.THEN);
            int first = readSeq(depth);
            int second = tokens.accept(Tokens.ELSE) ? readSeq(depth) : tree.make(Tree.NOTHING);
            tokens.expect(Tokens.END);
            return tree.choice(condition, first, second);
        }

        private int readAbort(int depth) {
            int seq = readTrapped(UNNAMED, depth);
            tokens.expect(Tokens.WHEN);
            boolean immediate = tokens.accept(Tokens.IMMEDIATE);
            int condition = readCondition();
            tokens.expect(Tokens.END);
            int aborting = tree.abort(seq, condition);
            return immediate ? tree.choice(condition, tree.make(Tree.NOTHING), aborting) : aborting;
        }

        private int readWeak(int depth) {
            tokens.expect(Tokens.ABORT);
            int seq = readTrapped(UNNAMED, depth);
            tokens.expect(Tokens.WHEN);
            boolean immediate = tokens.accept(Tokens.IMMEDIATE);
            int condition = readCondition();
            tokens.expect(Tokens.END);
            return tree.weak(seq, condition, immediate);
        }

        private int readSuspend(int depth) {
            int seq = readSeq(depth);
            tokens.expect(Tokens.WHEN);
            int condition = readCondition();
            tokens.expect(Tokens.END);
            return tree.suspend(seq, condition);
        }

        private int readEvery(int depth) {
            boolean immediate = tokens.accept(Tokens.IMMEDIATE);
            int condition = readCondition();
            // made ahead of the body, as its PAUSE stands ahead of those of the body
            int awaiting = tree.await(condition, immediate);
            tokens.expect(Tokens.DO);
            int seq = readTrapped(UNNAMED, depth);
            tokens.expect(Tokens.END);
            int working = tree.pair(Tree.SEQ, seq, tree.halt());
            return tree.pair(Tree.SEQ, awaiting, tree.wrap(Tree.LOOP, tree.abort(working, condition)));
        }

        private int readTrap(int depth) {
            long name = tokens.content;
            if (tokens.kind != Tokens.NAME) {
                tokens.fail(Tokens.MISPLACED);
            } else if (made.isTold(name) || trapsWithin(name) != NONE) {
                tokens.fail(Tokens.TOLD_BEFORE);
            }
            tokens.advance();
            tokens.expect(Tokens.IN);
            int seq = readTrapped(name, depth);
            tokens.expect(Tokens.END);
            return tree.wrap(Tree.TRAP, seq);
        }

        private int readTrapped(long name, int depth) {
            if (trapCount >= MOST_TRAPS) {
                tokens.fail(Tokens.TOO_MANY);
                return Tree.MISSING;
            }
            traps[trapCount] = name;
            trapCount++;
            int seq = readSeq(depth);
            trapCount--;
            return seq;
        }

        private int readBranches(Part part, int depth) {
            int givenAround = given;
            int usedAround = used;
            int givenBefore = 0;
            int usedBefore = 0;
            int node = tree.make(Tree.PAR);
            for (int branch = 0; branch < MOST_BRANCHES; branch++) {
                given = 0;
                used = 0;
                tree.hang(node, readSeq(depth));
                if ((given & (givenBefore | usedBefore)) != 0 || (used & givenBefore) != 0) {
                    part.late = Tokens.SHARED;
                }
                givenBefore |= given;
                usedBefore |= used;
                if (tokens.kind != Tokens.BESIDE) {
                    break;
                }
                if (branch == MOST_BRANCHES - 1) {
                    tokens.fail(Tokens.TOO_MANY);
                }
                tokens.advance();
            }
            given = givenAround | givenBefore;
            used = usedAround | usedBefore;
            tokens.expect(Tokens.RIGHT_SQUARE);
            return node;
        }

        private int readCondition() {
            int any = readAnd();
            for (int i = 0; i < TAPE_BYTES && tokens.accept(Tokens.OR); i++) {
                any = made.circuit.or(any, readAnd());
            }
            return any;
        }

        private int readAnd() {
            int all = readNot();
            for (int i = 0; i < TAPE_BYTES && tokens.accept(Tokens.AND); i++) {
                all = made.circuit.and(all, readNot());
            }
            return all;
        }

        private int readNot() {
            if (tokens.kind == Tokens.NOT) {
                tokens.opens();
                tokens.advance();
                int inner = tokens.fault == 0 ? readNot() : Circuit.NO;
                tokens.closes();
                return Circuit.not(inner);
            }
            if (tokens.kind == Tokens.LEFT) {
                tokens.opens();
                tokens.advance();
                int inner = tokens.fault == 0 ? readCondition() : Circuit.NO;
                tokens.expect(Tokens.RIGHT);
                tokens.closes();
                return inner;
            }
            boolean before = tokens.accept(Tokens.PRE);
            int signal = toldSignal();
            tokens.advance();
            if (signal == NONE) {
                return Circuit.NO;
            }
            return before ? made.circuit.beforeOf(signal) : made.circuit.signal[signal];
        }

        /** The comparison of an if, as the wire that tells whether it is so. */
        private int readComparison(Part part) {
            part.task = Part.IF;
            part.target = made.ifs;
            made.ifs++;
            part.sum = made.sums.length;
            readSum();
            made.sums.add(Sums.STOP);
            part.relation = tokens.kind;
            if (tokens.kind < Tokens.EQUAL || tokens.kind > Tokens.AT_LEAST) {
                tokens.fail(Tokens.MISPLACED);
            }
            tokens.advance();
            part.otherSum = made.sums.length;
            readSum();
            made.sums.add(Sums.STOP);
            return made.circuit.addIf();
        }

        private void readInBrackets() {
            tokens.opens();
            tokens.advance();
            if (tokens.fault == 0) {
                readSum();
            }
            tokens.expect(Tokens.RIGHT);
            tokens.closes();
        }

        private void readSum() {
            readTimes();
            for (int i = 0; i < TAPE_BYTES; i++) {
                int sign = tokens.kind;
                if (sign != Tokens.PLUS && sign != Tokens.MINUS) {
                    return;
                }
                tokens.advance();
                readTimes();
                made.sums.add(sign == Tokens.PLUS ? Sums.ADD : Sums.SUBTRACT);
            }
        }

        private void readTimes() {
            readOne();
            for (int i = 0; i < TAPE_BYTES; i++) {
                int sign = tokens.kind;
                if (sign != Tokens.TIMES && sign != Tokens.OVER && sign != Tokens.REST) {
                    return;
                }
                tokens.advance();
                readOne();
                made.sums.add(Sums.MULTIPLY + sign - Tokens.TIMES);
            }
        }

        private void readOne() {
            switch (tokens.kind) {
                case Tokens.NUMBER:
                    made.sums.addWith(Sums.NUMBER, (int) tokens.content);
                    tokens.advance();
                    break;
                case Tokens.NAME:
                    int variable = usedVariable();
                    made.sums.addWith(Sums.VARIABLE, variable);
                    tokens.advance();
                    break;
                case Tokens.ASK:
                    tokens.advance();
                    int signal = askedSignal();
                    made.sums.addWith(Sums.SIGNAL, signal);
                    tokens.advance();
                    break;
                case Tokens.MINUS:
                    tokens.opens();
                    tokens.advance();
                    if (tokens.fault == 0) {
                        readOne();
                    }
                    tokens.closes();
                    made.sums.add(Sums.NEGATE);
                    break;
                case Tokens.LEFT:
                    readInBrackets();
                    break;
                default:
                    tokens.fail(Tokens.MISPLACED);
            }
        }

        private int usedVariable() {
            int variable = made.variableNamed(tokens.content);
            if (variable == NONE) {
                tokens.fail(Tokens.NOT_TOLD);
                return NONE;
            }
            used |= 1 << variable;
            return variable;
        }

        private int askedSignal() {
            int signal = toldSignal();
            if (signal != NONE && made.mix[signal] == 0) {
                tokens.fail(Tokens.NOT_TOLD);
            }
            return signal;
        }
    }

    /** The kernel parts that a text comes to, each put together when what is within it is whole. */
    private static final class Tree {
        static final int NOTHING = 0, PAUSE = 1, EMIT = 2, EXIT = 3, CHOICE = 4, SEQ = 5, LOOP = 6,
            SUSPEND = 7, PAR = 8, TRAP = 9;
        /** Stands where no node is. */
        static final int MISSING = 0;
        /** Forty parts with twenty-four PAUSES come to some 430 nodes. */
        static final int MOST_NODES = 640;
        /** An exit of the trap around that has no others within it. */
        private static final int NEAREST = 2;

        final int[] kind = new int[MOST_NODES];
        final int[] first = new int[MOST_NODES];
        final int[] last = new int[MOST_NODES];
        final int[] next = new int[MOST_NODES];
        final int[] parent = new int[MOST_NODES];
        /** What a choice or suspend looks at, as a wire. */
        final int[] condition = new int[MOST_NODES];
        /** The number of a PAUSE, the signal of an emit, the CODE of an exit. */
        final int[] code = new int[MOST_NODES];
        /** The PAUSES within, bit by bit. */
        final int[] held = new int[MOST_NODES];
        /** The CODES that it can have AT ONCE, bit by bit. */
        final int[] atOnce = new int[MOST_NODES];
        int nodes;
        int pauses;

        void begin() {
            nodes = 1;
            pauses = 0;
        }

        int make(int nodeKind) {
            if (nodes >= MOST_NODES) {
                return MISSING;
            }
            int node = nodes;
            nodes++;
            kind[node] = nodeKind;
            first[node] = MISSING;
            last[node] = MISSING;
            next[node] = MISSING;
            parent[node] = MISSING;
            condition[node] = Circuit.NO;
            code[node] = 0;
            held[node] = 0;
            atOnce[node] = nodeKind == NOTHING || nodeKind == SEQ ? 1 : 0;
            return node;
        }

        void hang(int above, int child) {
            if (above == MISSING || child == MISSING) {
                return;
            }
            int had = atOnce[above];
            int added = atOnce[child];
            boolean isFirst = first[above] == MISSING;
            switch (kind[above]) {
                case SEQ:
                    atOnce[above] = (had & 1) == 0 ? had : had & ~1 | added;
                    break;
                case LOOP:
                    atOnce[above] = added & ~1;
                    break;
                case PAR:
                    // of each choice the greater one: none is below the least of each branch
                    int least = Math.max(Integer.lowestOneBit(had), Integer.lowestOneBit(added));
                    int greater = had == 0 || added == 0 ? 0 : (had | added) & -least;
                    atOnce[above] = isFirst ? added : greater;
                    break;
                case TRAP:
                    atOnce[above] = added & 3 | added >>> 2 & 1 | added >>> 1 & ~3;
                    break;
                default:
                    atOnce[above] = had | added;
            }
            held[above] |= held[child];
            parent[child] = above;
            if (isFirst) {
                first[above] = child;
            } else {
                next[last[above]] = child;
            }
            last[above] = child;
        }

        boolean canEndAtOnce(int node) {
            return (atOnce[node] & 1) != 0;
        }

        int wrap(int nodeKind, int inner) {
            int node = make(nodeKind);
            hang(node, inner);
            return node;
        }

        int pair(int nodeKind, int one, int other) {
            int node = make(nodeKind);
            hang(node, one);
            hang(node, other);
            return node;
        }

        int pauseNode() {
            int node = make(PAUSE);
            code[node] = pauses;
            held[node] = 1 << pauses;
            atOnce[node] = 2;
            pauses++;
            return node;
        }

        int emit(int signal) {
            int node = make(EMIT);
            code[node] = signal;
            atOnce[node] = 1;
            return node;
        }

        int exit(int within) {
            int node = make(EXIT);
            code[node] = NEAREST + within;
            atOnce[node] = 1 << code[node];
            return node;
        }

        int choice(int looksAt, int one, int other) {
            int node = make(CHOICE);
            hang(node, one);
            hang(node, other);
            condition[node] = looksAt;
            return node;
        }

        int suspend(int body, int looksAt) {
            int node = wrap(SUSPEND, body);
            condition[node] = looksAt;
            return node;
        }

        int halt() {
            return wrap(LOOP, pauseNode());
        }

        int sustain(int signal) {
            int emitting = emit(signal);
            return wrap(LOOP, pair(SEQ, emitting, pauseNode()));
        }

        private int watch(int looksAt, boolean immediate) {
            int pausing = pauseNode();
            int leaving = choice(looksAt, exit(0), make(NOTHING));
            return wrap(LOOP, immediate ? pair(SEQ, leaving, pausing) : pair(SEQ, pausing, leaving));
        }

        int await(int looksAt, boolean immediate) {
            return wrap(TRAP, watch(looksAt, immediate));
        }

        int abort(int body, int looksAt) {
            return weak(suspend(body, looksAt), looksAt, false);
        }

        int weak(int body, int looksAt, boolean immediate) {
            int working = pair(SEQ, body, exit(0));
            return wrap(TRAP, pair(PAR, working, watch(looksAt, immediate)));
        }
    }

    /** Goes once around a tree and makes the wires of each node, by those of what it hangs on. */
    private static final class Weaver {
        /** CODES are 0, 1, and 2 to 16 for fifteen traps. */
        private static final int CODES = 20;

        private final Tree tree;
        private final int[] go = new int[Tree.MOST_NODES];
        private final int[] res = new int[Tree.MOST_NODES];
        private final int[] susp = new int[Tree.MOST_NODES];
        private final int[] kill = new int[Tree.MOST_NODES];
        /** The GO within a loop, the KILL within a trap: known only when what is within is woven. */
        private final int[] open = new int[Tree.MOST_NODES];
        /** Of a branch: GONE or K0 or .. or the K that has been come to. */
        private final int[] reached = new int[Tree.MOST_NODES];
        private final int[] k = new int[Tree.MOST_NODES * CODES];
        private Circuit circuit;

        Weaver(Tree tree) {
            this.tree = tree;
        }

        void weave(Compiled made) {
            int node = made.root;
            begin(made.circuit, node);
            boolean inward = true;
            for (int step = 0; step < 2 * Tree.MOST_NODES && node != Tree.MISSING; step++) {
                int goesTo;
                if (inward) {
                    enter(node);
                    goesTo = tree.first[node];
                } else {
                    if (tree.kind[node] == Tree.PAR) {
                        joinBranches(node);
                    }
                    leave(node);
                    goesTo = tree.next[node];
                    node = goesTo == Tree.MISSING ? tree.parent[node] : node;
                }
                inward = goesTo != Tree.MISSING;
                if (inward) {
                    node = goesTo;
                    arrive(node);
                }
            }
            finish(made);
        }

        private void begin(Circuit into, int root) {
            circuit = into;
            go[root] = circuit.first;
            res[root] = Circuit.not(circuit.first);
            susp[root] = Circuit.NO;
            kill[root] = Circuit.NO;
        }

        private void finish(Compiled made) {
            circuit.ended = k[made.root * CODES];
            for (int s = 0; s < made.signals; s++) {
                if (made.role[s] != Tokens.INPUT) {
                    circuit.close(circuit.signal[s], circuit.emitted[s]);
                }
            }
            for (int i = 0; i < made.parts.size(); i++) {
                tellPart(made.parts.get(i));
            }
        }

        private void tellPart(Part part) {
            int node = part.node;
            part.held = tree.held[node];
            part.go = go[node];
            part.ends = k[node * CODES];
            part.pauses = k[node * CODES + 1];
            part.exits = k[node * CODES + 2];
        }

        private void arrive(int node) {
            int above = tree.parent[node];
            int looksAt = tree.condition[above];
            go[node] = go[above];
            res[node] = res[above];
            susp[node] = susp[above];
            kill[node] = kill[above];
            switch (tree.kind[above]) {
                case Tree.CHOICE:
                    boolean isFirst = tree.first[above] == node;
                    go[node] = circuit.and(go[above], isFirst ? looksAt : Circuit.not(looksAt));
                    break;
                case Tree.SEQ:
                    go[node] = k[above * CODES];
                    break;
                case Tree.LOOP:
                    go[node] = open[above];
                    break;
                case Tree.SUSPEND:
                    int resumed = resumed(above);
                    res[node] = circuit.and(resumed, Circuit.not(looksAt));
                    susp[node] = circuit.or(susp[above], circuit.and(resumed, looksAt));
                    break;
                case Tree.TRAP:
                    kill[node] = open[above];
                    break;
                default:
                    break;
            }
        }

        private int resumed(int node) {
            return circuit.and(res[node], circuit.holding(tree.held[node]));
        }

        private void enter(int node) {
            Arrays.fill(k, node * CODES, node * CODES + CODES, Circuit.NO);
            int code = tree.code[node];
            switch (tree.kind[node]) {
                case Tree.PAUSE:
                    circuit.addPause(code, go[node], susp[node], kill[node]);
                    k[node * CODES] = resumed(node);
                    k[node * CODES + 1] = go[node];
                    break;
                case Tree.EMIT:
                    circuit.emitted[code] = circuit.or(circuit.emitted[code], go[node]);
                    k[node * CODES] = go[node];
                    break;
                case Tree.EXIT:
                    k[node * CODES + code] = go[node];
                    break;
                case Tree.NOTHING:
                case Tree.SEQ:
                    // of a sequence: what its next part's GO is
                    k[node * CODES] = go[node];
                    break;
                case Tree.LOOP:
                case Tree.TRAP:
                    open[node] = circuit.fresh();
                    break;
                default:
                    break;
            }
        }

        private void leave(int node) {
            int above = tree.parent[node];
            int from = node * CODES;
            int to = above * CODES;
            switch (tree.kind[above]) {
                case Tree.SEQ:
                    k[to] = Circuit.NO;
                    orAll(to, from);
                    break;
                case Tree.CHOICE:
                    orAll(to, from);
                    break;
                case Tree.LOOP:
                    circuit.close(open[above], circuit.or(go[above], k[from]));
                    orAll(to, from);
                    k[to] = Circuit.NO;
                    break;
                case Tree.SUSPEND:
                    orAll(to, from);
                    int suspended = circuit.and(resumed(above), tree.condition[above]);
                    k[to + 1] = circuit.or(k[to + 1], suspended);
                    break;
                case Tree.TRAP:
                    leaveTrap(above, from);
                    break;
                default:
                    break;
            }
        }

        private void orAll(int to, int from) {
            for (int n = 0; n < CODES; n++) {
                k[to + n] = circuit.or(k[to + n], k[from + n]);
            }
        }

        private void leaveTrap(int trap, int from) {
            int to = trap * CODES;
            circuit.close(open[trap], circuit.or(kill[trap], k[from + 2]));
            k[to] = circuit.or(k[from], k[from + 2]);
            k[to + 1] = k[from + 1];
            for (int n = 2; n + 1 < CODES; n++) {
                k[to + n] = k[from + n + 1];
            }
        }

        private void joinBranches(int par) {
            int resumed = resumed(par);
            int branch = tree.first[par];
            for (int i = 0; i < Tree.MOST_NODES && branch != Tree.MISSING; i++) {
                int held = circuit.holding(tree.held[branch]);
                reached[branch] = circuit.and(resumed, Circuit.not(held));
                branch = tree.next[branch];
            }
            for (int n = 0; n < CODES; n++) {
                k[par * CODES + n] = joined(par, n);
            }
        }

        private int joined(int par, int n) {
            int any = Circuit.NO;
            int all = Circuit.YES;
            int branch = tree.first[par];
            for (int i = 0; i < Tree.MOST_NODES && branch != Tree.MISSING; i++) {
                int here = k[branch * CODES + n];
                reached[branch] = circuit.or(reached[branch], here);
                any = circuit.or(any, here);
                all = circuit.and(all, reached[branch]);
                branch = tree.next[branch];
            }
            return circuit.and(any, all);
        }
    }

    /**
     * Wires in three truths, as nets that are each the and of two literals: 2n is net n, 2n + 1 its not.
     * Each net has a truth in each of 32 lanes, so that all MOVES of a STATE are worked at once.
     */
    private static final class Circuit {
        static final int NO = 0, YES = 1, UNKNOWN = 2;
        private static final int FIRST_ROOM = 64, MOST_SWEEPS = 1000000;

        private int[] left = new int[FIRST_ROOM];
        private int[] right = new int[FIRST_ROOM];
        /** The lanes in which a net is known to be 1, and 0; their room is made when they are first told. */
        private int[] yes = new int[0];
        private int[] no = new int[0];
        private int nets = 1;
        /** Whether one of some PAUSES is SET: the PAUSES, bit by bit, and the literal of each. */
        private final ArrayList<Integer> heldMasks = new ArrayList<>();
        private final ArrayList<Integer> heldLiterals = new ArrayList<>();
        private final ArrayList<Integer> ifLiterals = new ArrayList<>();
        private final int[] before = new int[Compiled.MOST_SIGNALS];
        private final int[] pauseGo = new int[Reader.MOST_PAUSES];
        private final int[] pauseSusp = new int[Reader.MOST_PAUSES];
        private final int[] pauseKill = new int[Reader.MOST_PAUSES];
        private int pauses;
        final int[] signal = new int[Compiled.MOST_SIGNALS];
        final int[] emitted = new int[Compiled.MOST_SIGNALS];
        /** Whether it is a governor's first beat. */
        final int first;
        int ended;

        Circuit() {
            first = fresh();
        }

        static int not(int literal) {
            return literal ^ 1;
        }

        // folds no "x and not x": that is not known where x is not
        int and(int a, int b) {
            if (a == NO || b == NO) {
                return NO;
            }
            if (a == YES || a == b) {
                return b;
            }
            return b == YES ? a : 2 * addNet(a, b);
        }

        int or(int a, int b) {
            return not(and(not(a), not(b)));
        }

        /** A net that holds itself: one that is told from outside, or closed later. */
        int fresh() {
            int literal = 2 * nets;
            addNet(literal, literal);
            return literal;
        }

        void close(int literal, int as) {
            left[literal >>> 1] = as;
            right[literal >>> 1] = as;
        }

        private int addNet(int a, int b) {
            if (nets == left.length) {
                left = Arrays.copyOf(left, nets * 2);
                right = Arrays.copyOf(right, nets * 2);
            }
            left[nets] = a;
            right[nets] = b;
            nets++;
            return nets - 1;
        }

        void addSignal(int s) {
            signal[s] = fresh();
        }

        int addIf() {
            int literal = fresh();
            ifLiterals.add(literal);
            return literal;
        }

        void addPause(int pause, int go, int susp, int kill) {
            if (pause < pauseGo.length) {
                pauseGo[pause] = go;
                pauseSusp[pause] = susp;
                pauseKill[pause] = kill;
                pauses = Math.max(pauses, pause + 1);
            }
        }

        int beforeOf(int s) {
            if (before[s] == NO) {
                before[s] = fresh();
            }
            return before[s];
        }

        /** The signals that stand behind some pre, bit by bit. */
        int beforeMask() {
            int mask = 0;
            for (int s = 0; s < before.length; s++) {
                if (before[s] != NO) {
                    mask |= 1 << s;
                }
            }
            return mask;
        }

        int holding(int mask) {
            if (mask == 0) {
                return NO;
            }
            for (int i = 0; i < heldMasks.size(); i++) {
                int known = heldMasks.get(i);
                if (known == mask) {
                    return heldLiterals.get(i);
                }
            }
            int literal = fresh();
            heldMasks.add(mask);
            heldLiterals.add(literal);
            return literal;
        }

        /** All wires are not known but those that the beat begins with, in all lanes alike. */
        void stand(int set, int shownBefore, boolean isFirst) {
            if (yes.length < nets) {
                yes = new int[nets];
                no = new int[nets];
            }
            Arrays.fill(yes, 0);
            Arrays.fill(no, 0);
            no[0] = -1;
            tell(first, isFirst ? -1 : 0);
            for (int i = 0; i < heldMasks.size(); i++) {
                tell(heldLiterals.get(i), (set & heldMasks.get(i)) != 0 ? -1 : 0);
            }
            for (int s = 0; s < before.length; s++) {
                if (before[s] != NO) {
                    tell(before[s], (shownBefore >>> s & 1) != 0 ? -1 : 0);
                }
            }
        }

        void tellInput(int s, int lanes) {
            tell(signal[s], lanes);
        }

        void tellIf(int i, int lanes) {
            if (i < ifLiterals.size()) {
                tell(ifLiterals.get(i), lanes);
            }
        }

        private void tell(int literal, int lanes) {
            yes[literal >>> 1] = lanes;
            no[literal >>> 1] = ~lanes;
        }

        /** From nothing known on, what must be is told until no more must be: the least solution. */
        void settle() {
            boolean changes = true;
            for (int i = 0; i < MOST_SWEEPS && changes; i++) {
                changes = sweep();
            }
        }

        private boolean sweep() {
            boolean changes = false;
            for (int n = 1; n < nets; n++) {
                int isSo = lanesOf(left[n]) & lanesOf(right[n]);
                int isNot = lanesOf(not(left[n])) | lanesOf(not(right[n]));
                if (isSo != yes[n] || isNot != no[n]) {
                    yes[n] = isSo;
                    no[n] = isNot;
                    changes = true;
                }
            }
            return changes;
        }

        /** The lanes in which a literal is 1. */
        private int lanesOf(int literal) {
            return (literal & 1) == 0 ? yes[literal >>> 1] : no[literal >>> 1];
        }

        /** The lanes in which some wire is not known. */
        int stuckLanes() {
            int stuck = 0;
            for (int n = 0; n < nets; n++) {
                stuck |= ~(yes[n] | no[n]);
            }
            return stuck;
        }

        boolean isOn(int literal, int lane) {
            return (lanesOf(literal) >>> lane & 1) != 0;
        }

        /** The truth of a literal in the first lane. */
        int truth(int literal) {
            if (isOn(literal, 0)) {
                return YES;
            }
            return isOn(not(literal), 0) ? NO : UNKNOWN;
        }

        int shownIn(int lane) {
            int shown = 0;
            for (int s = 0; s < signal.length; s++) {
                if (isOn(signal[s], lane)) {
                    shown |= 1 << s;
                }
            }
            return shown;
        }

        int setBehind(int lane, int set) {
            int behind = 0;
            for (int p = 0; p < pauses; p++) {
                boolean stays = isOn(pauseSusp[p], lane) && (set >>> p & 1) != 0;
                if (!isOn(pauseKill[p], lane) && (isOn(pauseGo[p], lane) || stays)) {
                    behind |= 1 << p;
                }
            }
            return behind;
        }
    }

    /** The sums of a module, behind one another, each worked on a stack in order of its text. */
    private static final class Sums {
        static final int STOP = 0, NUMBER = 1, VARIABLE = 2, SIGNAL = 3, NEGATE = 4, ADD = 5, SUBTRACT = 6,
            MULTIPLY = 7, DIVIDE = 8, REMAIN = 9;
        static final int ZERO = 1, RANGE = 2, TWICE = 3;
        /** Fifteen open brackets and two waiting numbers in each stay far below. */
        private static final int STACK_ROOM = 64;

        private int[] code = new int[16];
        int length;
        private final long[] stack = new long[STACK_ROOM];
        private int height;
        /** Why the latest sum could not be worked, 0 if it could. */
        int failure;

        void add(int operation) {
            if (length == code.length) {
                code = Arrays.copyOf(code, length * 2);
            }
            code[length] = operation;
            length++;
        }

        void addWith(int operation, int operand) {
            add(operation);
            add(operand);
        }

        int work(int start, int[] row) {
            failure = 0;
            height = 0;
            for (int i = start; i >= 0 && i < length && code[i] != STOP && failure == 0; i++) {
                if (code[i] <= SIGNAL) {
                    push(code[i], i + 1 < length ? code[i + 1] : 0, row);
                    i++;
                } else if (code[i] == NEGATE) {
                    negate();
                } else {
                    combine(code[i]);
                }
            }
            return height > 0 && failure == 0 ? (int) stack[0] : 0;
        }

        private void push(int operation, int operand, int[] row) {
            if (height >= stack.length) {
                return;
            }
            int at = operation == VARIABLE ? Governor.VARIABLES + operand : Governor.NUMBERS + operand;
            if (operation == NUMBER) {
                stack[height] = operand;
            } else {
                stack[height] = at < row.length ? row[at] : 0;
            }
            height++;
        }

        private void negate() {
            if (height > 0) {
                stack[height - 1] = -stack[height - 1];
            }
        }

        private void combine(int operation) {
            if (height < 2) {
                return;
            }
            height--;
            long right = stack[height];
            long left = stack[height - 1];
            if (operation >= DIVIDE && right == 0) {
                failure = ZERO;
                return;
            }
            long result = combined(operation, left, right);
            if (!isInRange(result)) {
                failure = RANGE;
                return;
            }
            stack[height - 1] = result;
        }

        private static long combined(int operation, long left, long right) {
            switch (operation) {
                case ADD:
                    return left + right;
                case SUBTRACT:
                    return left - right;
                case MULTIPLY:
                    return left * right;
                case DIVIDE:
                    return right == 0 ? 0 : left / right;
                default:
                    return right == 0 ? 0 : left % right;
            }
        }

        static boolean isInRange(long number) {
            return number >= -MOST_NUMBER && number <= MOST_NUMBER;
        }

        static boolean isSo(int relation, int left, int right) {
            switch (relation) {
                case Tokens.EQUAL:
                    return left == right;
                case Tokens.UNEQUAL:
                    return left != right;
                case Tokens.LESS:
                    return left < right;
                case Tokens.AT_MOST:
                    return left <= right;
                case Tokens.GREATER:
                    return left > right;
                default:
                    return left >= right;
            }
        }
    }

    /** A governor: what it is, as rows of numbers, and what its latest beat told. */
    private static final class Governor {
        /** Where things stand in a row. */
        static final int SET = 0, BEFORE = 1, BEATS = 2, ENDED = 3, NUMBERS = 4,
            VARIABLES = NUMBERS + Compiled.MOST_SIGNALS, ROW = VARIABLES + Compiled.MOST_VARIABLES;
        static final int MOST_KEPT = 3, WIRES = 5;
        private static final int GOES_ON = 0, HAS_ENDED = 1, FAILED = 2, STUCK = 3;

        final Compiled plan;
        final int planNumber;
        int[] now = new int[ROW];
        private int[] next = new int[ROW];
        private final int[][] kept = new int[MOST_KEPT][ROW];
        int keptCount;
        /** The inputs that are given, bit by bit in order of inputs. */
        private int given;
        private final int[] givenNumber = new int[Compiled.MOST_INPUTS];
        /** Of each part its WIRES, two bits each. */
        private final int[] wires;
        private int emitted;
        int shown;
        int answer = NONE;
        int failure;
        int failedPart = NONE;

        Governor(Compiled plan, int planNumber) {
            this.plan = plan;
            this.planNumber = planNumber;
            wires = new int[plan.parts.size()];
            for (int v = 0; v < plan.variables; v++) {
                now[VARIABLES + v] = plan.beginning[v];
            }
        }

        boolean hasEnded() {
            return now[ENDED] != 0;
        }

        void take(int input, boolean isGiven, int number) {
            given = isGiven ? given | 1 << input : given & ~(1 << input);
            givenNumber[input] = number;
        }

        int react() {
            Circuit circuit = plan.circuit;
            forgetBeat();
            circuit.stand(now[SET], now[BEFORE], now[BEATS] == 0);
            tellMoves(circuit);
            circuit.settle();
            recordWires(circuit);
            if (circuit.stuckLanes() != 0) {
                answer = STUCK;
            } else {
                workBeat(circuit);
            }
            given = 0;
            return answer;
        }

        private void forgetBeat() {
            shown = 0;
            failure = 0;
            failedPart = NONE;
        }

        private void tellMoves(Circuit circuit) {
            for (int i = 0; i < plan.inputs; i++) {
                circuit.tellInput(plan.inputAt[i], (given >>> i & 1) != 0 ? -1 : 0);
            }
            for (int i = 0; i < plan.parts.size(); i++) {
                Part part = plan.parts.get(i);
                if (part.task == Part.IF) {
                    circuit.tellIf(part.target, isSo(part) ? -1 : 0);
                }
            }
        }

        /** Whether an if is so by the numbers ahead of the beat; the sums tell a failure. */
        private boolean isSo(Part part) {
            int left = plan.sums.work(part.sum, now);
            if (plan.sums.failure != 0) {
                return false;
            }
            int right = plan.sums.work(part.otherSum, now);
            return plan.sums.failure == 0 && Sums.isSo(part.relation, left, right);
        }

        private void recordWires(Circuit circuit) {
            for (int i = 0; i < wires.length; i++) {
                Part part = plan.parts.get(i);
                int selected = (part.held & now[SET]) != 0 ? 1 : 0;
                wires[i] = circuit.truth(part.go) | selected << 2 | circuit.truth(part.ends) << 4
                    | circuit.truth(part.pauses) << 6 | circuit.truth(part.exits) << 8;
            }
        }

        int wireOf(int i, int what) {
            return i < wires.length ? wires[i] >>> 2 * what & 3 : 0;
        }

        private void workBeat(Circuit circuit) {
            System.arraycopy(now, 0, next, 0, ROW);
            takeGivenNumbers();
            emitted = 0;
            for (int i = 0; i < plan.parts.size() && failure == 0; i++) {
                Part part = plan.parts.get(i);
                if (part.task != Part.IDLE && circuit.isOn(part.go, 0)) {
                    workPart(part);
                    failedPart = failure != 0 ? i : NONE;
                }
            }
            if (failure != 0) {
                answer = FAILED;
                return;
            }
            shown = circuit.shownIn(0);
            next[SET] = circuit.setBehind(0, now[SET]);
            next[BEFORE] = shown;
            next[BEATS]++;
            next[ENDED] = circuit.truth(circuit.ended);
            answer = next[ENDED] != 0 ? HAS_ENDED : GOES_ON;
            int[] row = now;
            now = next;
            next = row;
        }

        private void takeGivenNumbers() {
            for (int i = 0; i < plan.inputs; i++) {
                int signal = plan.inputAt[i];
                if ((given >>> i & 1) != 0 && plan.mix[signal] != 0) {
                    next[NUMBERS + signal] = givenNumber[i];
                }
            }
        }

        private void workPart(Part part) {
            if (part.task == Part.IF) {
                isSo(part);
                failure = plan.sums.failure;
                return;
            }
            int number = plan.sums.work(part.sum, next);
            failure = plan.sums.failure;
            if (failure != 0) {
                return;
            }
            if (part.task == Part.ASSIGN) {
                next[VARIABLES + part.target] = number;
            } else {
                emitNumber(part.target, number);
            }
        }

        private void emitNumber(int signal, int number) {
            int at = NUMBERS + signal;
            long comesTo = number;
            if ((emitted >>> signal & 1) != 0) {
                if (plan.mix[signal] == Tokens.ONE) {
                    failure = Sums.TWICE;
                    return;
                }
                comesTo = plan.mix[signal] == Tokens.SUM ? (long) next[at] + number : Math.max(next[at], number);
            }
            if (!Sums.isInRange(comesTo)) {
                failure = Sums.RANGE;
                return;
            }
            emitted |= 1 << signal;
            next[at] = (int) comesTo;
        }

        void store() {
            if (keptCount < MOST_KEPT) {
                System.arraycopy(now, 0, kept[keptCount], 0, ROW);
                keptCount++;
            }
        }

        void restore() {
            if (keptCount > 0) {
                keptCount--;
                System.arraycopy(kept[keptCount], 0, now, 0, ROW);
            }
            forgetBeat();
            answer = NONE;
            given = 0;
            Arrays.fill(wires, 0);
        }

        boolean likeOther(Governor other) {
            for (int i = 0; i < ROW; i++) {
                boolean isAlike = i == BEATS ? now[i] == 0 == (other.now[i] == 0) : now[i] == other.now[i];
                if (!isAlike) {
                    return false;
                }
            }
            return true;
        }
    }

    /** The STATES that a module can come to, by all MOVES, and which of them are ALIKE. */
    private static final class Search {
        static final int MOST_MOVES = 32;
        private static final int MOST_STATES = 48, MOST_FREE = 5;
        /** Lane by lane the bits of the lane's own number: the MOVE that it works. */
        private static final int[] LANE_BITS = {0xAAAAAAAA, 0xCCCCCCCC, 0xF0F0F0F0, 0xFF00FF00, 0xFFFF0000};

        final Compiled plan;
        final int moves;
        boolean beyond;
        int states;
        private final int beforeMask;
        private final int[] set;
        private final int[] before;
        private final int[] from;
        private final int[] by;
        final int[] next;
        final int[] shown;
        final int[] group;
        private final int[] finer;

        Search(Compiled plan) {
            this.plan = plan;
            int free = plan.inputs + plan.ifs;
            beyond = free > MOST_FREE;
            moves = beyond ? 1 : 1 << free;
            int room = beyond ? 0 : MOST_STATES;
            beforeMask = plan.circuit.beforeMask();
            set = new int[room];
            before = new int[room];
            from = new int[room];
            by = new int[room];
            next = new int[room * moves];
            shown = new int[room * moves];
            group = new int[room];
            finer = new int[room];
        }

        void explore() {
            states = beyond ? 0 : 1;
            // each STATE that comes is worked in its turn, up to the last that there may be
            for (int state = 0; state < MOST_STATES && state < states && !beyond; state++) {
                workState(state);
            }
            if (!beyond) {
                groupAlike();
            }
        }

        private void workState(int state) {
            Circuit circuit = plan.circuit;
            circuit.stand(set[state], before[state], state == 0);
            for (int i = 0; i < plan.inputs && i < LANE_BITS.length; i++) {
                circuit.tellInput(plan.inputAt[i], LANE_BITS[i]);
            }
            for (int i = 0; i < plan.ifs && plan.inputs + i < LANE_BITS.length; i++) {
                circuit.tellIf(i, LANE_BITS[plan.inputs + i]);
            }
            circuit.settle();
            int stuck = circuit.stuckLanes();
            for (int move = 0; move < moves && !beyond; move++) {
                int at = state * moves + move;
                if ((stuck >>> move & 1) != 0) {
                    next[at] = STATE;
                    continue;
                }
                shown[at] = circuit.shownIn(move);
                boolean ends = circuit.isOn(circuit.ended, move);
                next[at] = ends ? NONE : reach(state, move, circuit.setBehind(move, set[state]), shown[at]);
            }
        }

        /** The number of the STATE that a MOVE leads to; never 0, which alone is ahead of the first beat. */
        private int reach(int state, int move, int setThen, int shownThen) {
            int beforeThen = shownThen & beforeMask;
            for (int known = 1; known < states; known++) {
                if (set[known] == setThen && before[known] == beforeThen) {
                    return known;
                }
            }
            if (states >= MOST_STATES) {
                beyond = true;
                return NONE;
            }
            set[states] = setThen;
            before[states] = beforeThen;
            from[states] = state;
            by[states] = move;
            states++;
            return states - 1;
        }

        /** From all in one group on, groups are parted until they part no more. */
        private void groupAlike() {
            boolean parts = true;
            for (int round = 0; round <= MOST_STATES && parts; round++) {
                parts = false;
                for (int state = 0; state < states; state++) {
                    finer[state] = leastAlike(state);
                    parts = parts || finer[state] != group[state];
                }
                System.arraycopy(finer, 0, group, 0, states);
            }
        }

        private int leastAlike(int state) {
            for (int least = 0; least < state; least++) {
                if (finer[least] == least && group[least] == group[state] && moveAlike(least, state)) {
                    return least;
                }
            }
            return state;
        }

        private boolean moveAlike(int one, int other) {
            for (int move = 0; move < moves; move++) {
                int here = one * moves + move;
                int there = other * moves + move;
                if (((shown[here] ^ shown[there]) & plan.outputMask) != 0) {
                    return false;
                }
                if (groupOf(next[here]) != groupOf(next[there])) {
                    return false;
                }
            }
            return true;
        }

        private int groupOf(int leadsTo) {
            return leadsTo < 0 ? leadsTo : group[leadsTo];
        }

        boolean hasState(int state) {
            return state >= 0 && state < states;
        }

        int stepsTo(int state) {
            int steps = 0;
            int at = state;
            while (at != 0 && steps < MOST_STATES) {
                at = from[at];
                steps++;
            }
            return steps;
        }

        /** The MOVE by which the WAY goes on, counted from its end. */
        int stepTo(int state, int fromEnd) {
            int at = state;
            for (int i = 0; i < fromEnd && i < MOST_STATES; i++) {
                at = from[at];
            }
            return by[at];
        }

        /** The first STATE (times MOST_MOVES) and MOVE with one signal but not the other, NONE if no one. */
        int firstAgainst(int shownMask, int missingMask) {
            for (int state = 0; state < states; state++) {
                for (int move = 0; move < moves; move++) {
                    int seen = shown[state * moves + move];
                    if ((seen & shownMask) != 0 && (seen & missingMask) == 0) {
                        return state * MOST_MOVES + move;
                    }
                }
            }
            return NONE;
        }
    }
}
