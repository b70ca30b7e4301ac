import java.util.Arrays;
import java.util.NoSuchElementException;

/**
 * One board of devices and drivers: drivers are bound to devices late, probes are deferred until
 * suppliers stand, links of supply are remembered, and letting go works from the consumers inward.
 */
public final class LateBinder {
    public static final int NONE = -1;

    /** The answer to a question out of range where NONE is an ordinary answer. */
    private static final int OTHER = -2;

    private static final int DEVICES = 12;
    private static final int DRIVERS = 8;
    private static final int SUPPLIES = 8;
    private static final int NEEDS = 3;
    private static final int PATTERNS = 3;
    private static final int STEPS = 6;
    private static final int LINES = 16;
    private static final int POOL = 99;
    private static final int TAPE_BYTES = 648;
    private static final int FEED_BYTES = 24;
    private static final int BOARD_BYTES = 600;
    private static final int LOG_ROWS = 50;

    private static final int AWAY = 0;
    private static final int IDLE = 1;
    private static final int DEFERRED = 2;
    private static final int BOUND = 3;

    private final Tape tape;
    private final Parser parser;
    private final Journal journal;
    private final Bench bench;
    /** One for each DRIVER that can be loaded behind another one; the first serves all other trials. */
    private final Bench[] trials;
    private final Ring rings;
    /** Of each DEVICE the DRIVERS that are WANTED, as bits; 0: by none. */
    private final int[] wantedBits;
    private boolean wantedKnown;
    private Plan plan;
    /** A text is read into this one, so that a FAULT leaves the BOARD as it was. */
    private Plan spare;

    public LateBinder() {
        tape = new Tape();
        parser = new Parser(tape);
        journal = new Journal(LOG_ROWS);
        plan = new Plan();
        spare = new Plan();
        bench = new Bench(plan, journal);
        Journal deaf = new Journal(0);
        trials = new Bench[DRIVERS];
        for (int i = 0; i < DRIVERS; i++) {
            trials[i] = new Bench(plan, deaf);
        }
        rings = new Ring();
        wantedBits = new int[DEVICES];
        wantedKnown = false;
    }

    // ---- the tape and the board

    public int feed(long a, long b, long c) {
        if (tape.size + FEED_BYTES > TAPE_BYTES) {
            return NONE;
        }
        tape.push(a);
        tape.push(b);
        tape.push(c);
        return tape.size;
    }

    public int end(int n) {
        if (n < 0 || n > tape.size) {
            return NONE;
        }
        tape.size = n;
        return n;
    }

    public int board() {
        if (tape.size > BOARD_BYTES) {
            tape.size = 0;
            return NONE;
        }
        int fault = parser.parse(spare);
        tape.size = 0;
        if (fault != 0) {
            return -2 - fault;
        }
        Plan told = spare;
        spare = plan;
        plan = told;
        bench.reset(plan);
        journal.clear();
        wantedKnown = false;
        return plan.devices + plan.drivers;
    }

    // ---- calls that change what stands

    public int add(int device) {
        if (!plan.hasDevice(device) || bench.state[device] != AWAY) {
            return NONE;
        }
        int parent = plan.parent[device];
        if (parent != NONE && bench.state[parent] == AWAY) {
            return NONE;
        }
        bench.begin();
        bench.state[device] = IDLE;
        bench.attempt(device);
        conclude();
        return bench.state[device];
    }

    public int remove(int device) {
        if (!plan.hasDevice(device) || bench.state[device] == AWAY) {
            return NONE;
        }
        bench.begin();
        int gone = bench.takeAway(device);
        conclude();
        return gone;
    }

    public int load(int driver) {
        if (!plan.hasDriver(driver) || bench.isLoaded(driver)) {
            return NONE;
        }
        bench.begin();
        bench.install(driver);
        conclude();
        return bench.boundNow;
    }

    public int unload(int driver) {
        if (!plan.hasDriver(driver) || !bench.isLoaded(driver)) {
            return NONE;
        }
        bench.begin();
        bench.withdraw(driver);
        conclude();
        return bench.gone.size;
    }

    public int unbind(int device) {
        if (!plan.hasDevice(device) || bench.state[device] != BOUND) {
            return NONE;
        }
        bench.begin();
        bench.letGo(device, 0);
        bench.makeIdle(device);
        conclude();
        return bench.gone.size;
    }

    public int bind(int device, int driver) {
        if (!isWaiting(device) || !plan.hasDriver(driver) || !bench.isLoaded(driver)) {
            return NONE;
        }
        bench.begin();
        if (!bench.endsWith(device, driver)) {
            bench.makeIdle(device);
        }
        conclude();
        return bench.state[device];
    }

    public int rescan() {
        bench.begin();
        for (int d = 0; d < plan.devices; d++) {
            if (isWaiting(d)) {
                bench.attempt(d);
            }
        }
        conclude();
        return bench.boundNow;
    }

    public int forget(int device) {
        if (!plan.hasDevice(device)) {
            return NONE;
        }
        int kept = bench.linked[device] & bench.consumes[device];
        int forgotten = Integer.bitCount(bench.linked[device]) - Integer.bitCount(kept);
        bench.linked[device] = kept;
        wantedKnown = false;
        return forgotten;
    }

    private void conclude() {
        bench.settle();
        bench.sync();
        wantedKnown = false;
    }

    // ---- questions

    public int device(int device, int what) {
        if (!plan.hasDevice(device)) {
            return OTHER;
        }
        boolean bound = bench.state[device] == BOUND;
        switch (what) {
            case 0:
                return bench.state[device];
            case 1:
                return bound ? bench.driverOf[device] : NONE;
            case 2:
                return plan.parent[device];
            case 3:
                return bench.reason[device];
            case 4:
                return bench.cause[device];
            case 5:
                return bench.row.placeOf(device);
            case 6:
                return bench.synced >> device & 1;
            case 7:
                return bound ? bench.high[device] : NONE;
            case 8:
                return bench.poolOf(device);
            case 9:
                return placesOf(bench.lineOwner, LINES, device);
            case 10:
                return bench.givenBy(device);
            case 11:
                return bench.lacks(device);
            default:
                return OTHER;
        }
    }

    public int links(int device, int what) {
        if (!plan.hasDevice(device)) {
            return NONE;
        }
        switch (what) {
            case 0:
                return bench.consumes[device];
            case 1:
                return holdersOf(bench.consumes, plan.devices, device);
            case 2:
                return bench.linked[device];
            case 3:
                return holdersOf(bench.linked, plan.devices, device);
            case 4:
                return bench.above(device);
            case 5:
                return bench.state[device] == BOUND ? lettingGo(device).bits() : 0;
            case 6:
                return bench.waitsFor(device);
            default:
                return NONE;
        }
    }

    public int driver(int driver, int what) {
        if (!plan.hasDriver(driver)) {
            return NONE;
        }
        switch (what) {
            case 0:
                return bench.isLoaded(driver) ? 1 : 0;
            case 1:
                return plan.steps[driver];
            case 2:
                return plan.patterns[driver];
            case 3:
                return bench.boundTo(driver);
            default:
                return NONE;
        }
    }

    public int score(int driver, int device) {
        if (!plan.hasDriver(driver) || !plan.hasDevice(device)) {
            return NONE;
        }
        return plan.score[driver][device];
    }

    public int line(int device, int i) {
        if (!plan.hasDevice(device) || i < 0) {
            return NONE;
        }
        return bench.inLine(device, i);
    }

    public int would(int device, int what) {
        if (!isWaiting(device) || what < 0 || what > 2) {
            return NONE;
        }
        Bench trial = trials[0];
        trial.copyFrom(bench);
        trial.begin();
        trial.attempt(device);
        trial.settle();
        if (what == 0) {
            return trial.state[device];
        }
        if (what == 1) {
            return trial.state[device] == BOUND ? trial.driverOf[device] : NONE;
        }
        return trial.boundNow;
    }

    public int order(int device, int i) {
        if (!plan.hasDevice(device) || bench.state[device] != BOUND) {
            return NONE;
        }
        return lettingGo(device).at(i);
    }

    public int ring(int device, int i) {
        if (!plan.hasDevice(device)) {
            return NONE;
        }
        Row found = rings.seek(bench, device);
        if (i == NONE && found.size > 0) {
            return found.size;
        }
        return found.at(i);
    }

    public int wanted(int device, int what) {
        if (!isWaiting(device) || what < 0 || what > 1) {
            return NONE;
        }
        if (!wantedKnown) {
            Arrays.fill(wantedBits, 0);
            explore(bench, 0, 0, 0);
            wantedKnown = true;
        }
        int bits = wantedBits[device];
        if (bits == 0) {
            return NONE;
        }
        return what == 0 ? Integer.bitCount(bits) : bits;
    }

    public int supply(int supply, int what) {
        if (supply < 0 || supply >= plan.supplies) {
            return OTHER;
        }
        switch (what) {
            case 0:
                return bench.giver[supply];
            case 1:
                return holdersOf(plan.needBits, plan.devices, supply);
            case 2:
                return holdersOf(plan.giveBits, plan.drivers, supply);
            default:
                return OTHER;
        }
    }

    public int taken(int line) {
        if (line < 0 || line >= LINES) {
            return OTHER;
        }
        return bench.lineOwner[line];
    }

    public int log(int i, int what) throws NoSuchElementException {
        if (i < 0 || i >= journal.size || what < 0 || what > 2) {
            throw new NoSuchElementException();
        }
        return journal.cell(i, what);
    }

    public int find(int what) {
        long code = tape.wordCode(0, tape.size);
        tape.size = 0;
        if (code == 0) {
            return NONE;
        }
        switch (what) {
            case 0:
                return placeOfName(plan.deviceName, plan.devices, code);
            case 1:
                return placeOfName(plan.driverName, plan.drivers, code);
            case 2:
                return placeOfName(plan.supplyName, plan.supplies, code);
            default:
                return NONE;
        }
    }

    public int count(int what) {
        switch (what) {
            case 0:
                return plan.devices;
            case 1:
                return plan.drivers;
            case 2:
                return plan.supplies;
            case 3:
                return bench.pool;
            case 4:
                return bench.bound.bits();
            case 5:
                return bench.row.size;
            case 6:
                return bench.loaded;
            case 7:
                return bench.linkCount();
            case 8:
                return bench.synced;
            case 9:
                return journal.size;
            case 10:
                return tape.size;
            default:
                return NONE;
        }
    }

    /** IDLE or DEFERRED; false also for what is no DEVICE. */
    private boolean isWaiting(int d) {
        return plan.hasDevice(d) && isWaitingState(bench.state[d]);
    }

    /** The order in which a BOUND DEVICE and all WITH it would be LET GO. */
    private Row lettingGo(int d) {
        Bench trial = trials[0];
        trial.copyFrom(bench);
        trial.begin();
        trial.letGo(d, 0);
        return trial.gone;
    }

    /**
     * Loads each set of DRIVERS once, the lowest first: sets with the same beginning share its
     * trial, and one walk answers for all DEVICES.
     */
    private void explore(Bench from, int first, int mask, int depth) {
        if (depth >= DRIVERS) {
            return;
        }
        Bench trial = trials[depth];
        for (int r = first; r < plan.drivers; r++) {
            if (!from.isLoaded(r)) {
                trial.copyFrom(from);
                trial.begin();
                trial.install(r);
                trial.settle();
                rememberWanted(trial, mask | 1 << r);
                explore(trial, r + 1, mask | 1 << r, depth + 1);
            }
        }
    }

    private void rememberWanted(Bench trial, int mask) {
        for (int d = 0; d < plan.devices; d++) {
            if (trial.state[d] == BOUND && isBetter(mask, wantedBits[d])) {
                wantedBits[d] = mask;
            }
        }
    }

    private static boolean isBetter(int mask, int best) {
        int fewer = Integer.bitCount(best) - Integer.bitCount(mask);
        return best == 0 || fewer > 0 || fewer == 0 && mask < best;
    }

    private static boolean isWaitingState(int state) {
        return state == IDLE || state == DEFERRED;
    }

    /** The places, as bits, at which the row has the value. */
    private static int placesOf(int[] values, int size, int value) {
        int bits = 0;
        for (int i = 0; i < size && i < values.length; i++) {
            if (values[i] == value) {
                bits |= 1 << i;
            }
        }
        return bits;
    }

    /** The places, as bits, whose own bits have the bit. */
    private static int holdersOf(int[] sets, int size, int bit) {
        int bits = 0;
        for (int i = 0; i < size && i < sets.length; i++) {
            bits |= (sets[i] >> bit & 1) << i;
        }
        return bits;
    }

    private static int placeOfName(long[] names, int size, long code) {
        for (int i = 0; i < size && i < names.length; i++) {
            if (names[i] == code) {
                return i;
            }
        }
        return NONE;
    }

    private static boolean isLetter(int sign) {
        return sign >= 'a' && sign <= 'z';
    }

    private static boolean isDigit(int sign) {
        return sign >= '0' && sign <= '9';
    }

    /** The WORDS that the document tells; no NAME and no SUPPLY is one of them. */
    private enum Key {
        DEVICE("device"), DRIVER("driver"), IN("in"), NEEDS("needs"), OR("or"),
        MAP("map"), LINE("line"), GET("get"), GIVE("give"), BREAK("break");

        private static final Key[] ALL = values();

        private final long code;

        Key(String text) {
            long sum = 0;
            for (int i = 0; i < text.length(); i++) {
                sum = Tape.behind(sum, text.charAt(i));
            }
            code = sum;
        }

        /** The key with this code; null: a plain WORD. */
        static Key withCode(long code) {
            for (int i = 0; i < ALL.length; i++) {
                if (ALL[i].code == code) {
                    return ALL[i];
                }
            }
            return null;
        }

        boolean isStep() {
            return this == MAP || this == LINE || this == GET || this == GIVE || this == BREAK;
        }
    }

    private static final class Tape {
        private static final int WORD_LETTERS = 7;

        final byte[] bytes = new byte[TAPE_BYTES];
        int size;

        void push(long eight) {
            for (int shift = 56; shift >= 0 && size < TAPE_BYTES; shift -= 8) {
                bytes[size] = (byte) (eight >>> shift);
                size++;
            }
        }

        /** A sign that no TOKEN has stands for all behind the end. */
        int at(int i) {
            return i >= 0 && i < size ? bytes[i] : 0;
        }

        /** The WORD as one number, so that NAMES are kept and compared without texts; 0: no WORD. */
        long wordCode(int from, int to) {
            if (to - from > WORD_LETTERS) {
                return 0;
            }
            long code = 0;
            for (int i = from; i < to; i++) {
                if (!isLetter(at(i))) {
                    return 0;
                }
                code = behind(code, at(i));
            }
            return code;
        }

        static long behind(long code, int letter) {
            return code * 27 + (letter - 'a' + 1);
        }
    }

    /** What the text of the BOARD tells. */
    private static final class Plan {
        int devices;
        int drivers;
        int supplies;
        final long[] deviceName = new long[DEVICES];
        final long[] driverName = new long[DRIVERS];
        final long[] supplyName = new long[SUPPLIES];
        final int[] parent = new int[DEVICES];
        final int[] parentBit = new int[DEVICES];
        final int[] needs = new int[DEVICES];
        final int[] need = new int[DEVICES * NEEDS];
        final int[] needBits = new int[DEVICES];
        final int[] patterns = new int[DRIVERS];
        final int[] steps = new int[DRIVERS];
        final Key[] stepKey = new Key[DRIVERS * STEPS];
        final int[] stepValue = new int[DRIVERS * STEPS];
        final int[] getBits = new int[DRIVERS];
        final int[] giveBits = new int[DRIVERS];
        final int[][] score = new int[DRIVERS][DEVICES];
        /** Of each DEVICE the DRIVERS that MATCH, as they stand in LINE when all are LOADED. */
        final int[][] rank = new int[DEVICES][DRIVERS];
        final int[] ranked = new int[DEVICES];

        void clear() {
            devices = 0;
            drivers = 0;
            supplies = 0;
            Arrays.fill(parent, NONE);
            Arrays.fill(parentBit, 0);
            Arrays.fill(needs, 0);
            Arrays.fill(needBits, 0);
            Arrays.fill(patterns, 0);
            Arrays.fill(steps, 0);
            Arrays.fill(getBits, 0);
            Arrays.fill(giveBits, 0);
            Arrays.fill(ranked, 0);
        }

        boolean hasDevice(int d) {
            return d >= 0 && d < devices;
        }

        boolean hasDriver(int r) {
            return r >= 0 && r < drivers;
        }

        boolean hasName(long code) {
            return placeOfName(deviceName, devices, code) != NONE
                || placeOfName(driverName, drivers, code) != NONE;
        }

        void putParent(int d, int p) {
            parent[d] = p;
            parentBit[d] = 1 << p;
        }

        void putNeed(int d, int s) {
            need[d * NEEDS + needs[d]] = s;
            needs[d]++;
            needBits[d] |= 1 << s;
        }

        void putStep(int r, Key key, int value) {
            int at = r * STEPS + steps[r];
            stepKey[at] = key;
            stepValue[at] = value;
            steps[r]++;
            if (key == Key.GET) {
                getBits[r] |= 1 << value;
            } else if (key == Key.GIVE) {
                giveBits[r] |= 1 << value;
            }
        }

        /** DRIVERS are put by numbers, so of equal SCORES the lowest stays ahead. */
        void putScore(int r, int d, int signs) {
            score[r][d] = signs;
            if (signs == NONE || ranked[d] >= DRIVERS) {
                return;
            }
            int at = ranked[d];
            while (at > 0 && score[rank[d][at - 1]][d] < signs) {
                rank[d][at] = rank[d][at - 1];
                at--;
            }
            rank[d][at] = r;
            ranked[d]++;
        }
    }

    /** Reads the TAPE into a Plan, TOKEN by TOKEN, up to the first FAULT. */
    private static final class Parser {
        private static final int END = 0;
        private static final int WORD = 1;
        private static final int NUMBER = 2;
        private static final int SEMICOLON = 3;
        private static final int SIGNS = 4;
        private static final int NO_TOKEN = 5;

        private static final int CANNOT_COME = 1;
        private static final int NOT_AS_TOLD = 2;
        private static final int WRONG_NAME = 3;
        private static final int TOO_MANY = 4;

        private static final int MOST_SIGNS = 8;
        private static final int MOST_DIGITS = 2;

        private final Tape tape;
        private Plan plan;
        private int kind;
        private int begin;
        private int after;
        private long code;
        private Key key;
        private int fault;
        private final int[] idFrom = new int[DEVICES];
        private final int[] idTo = new int[DEVICES];
        private final int[] patternFrom = new int[DRIVERS * PATTERNS];
        private final int[] patternTo = new int[DRIVERS * PATTERNS];

        Parser(Tape tape) {
            this.tape = tape;
        }

        /** 8 * place + kind of the FAULT; 0: there is none. */
        int parse(Plan into) {
            plan = into;
            plan.clear();
            fault = 0;
            after = 0;
            step();
            for (int n = 0; n <= BOARD_BYTES && fault == 0 && kind != END; n++) {
                boolean whole = key == Key.DEVICE ? readDevice()
                    : key == Key.DRIVER ? readDriver() : fail(CANNOT_COME);
                if (whole) {
                    step();
                }
            }
            if (fault == 0) {
                scoreAll();
            }
            return fault;
        }

        private boolean fail(int why) {
            fault = 8 * begin + why;
            return false;
        }

        private boolean readDevice() {
            int d = plan.devices;
            if (d >= DEVICES) {
                return fail(TOO_MANY);
            }
            step();
            if (!isNewName()) {
                return false;
            }
            plan.deviceName[d] = code;
            step();
            if (kind != SIGNS) {
                return fail(CANNOT_COME);
            }
            if (literals(begin + 1, after) < after - begin - 1) {
                return fail(NOT_AS_TOLD);
            }
            idFrom[d] = begin + 1;
            idTo[d] = after;
            step();
            if (!readParent(d) || !readNeeds(d)) {
                return false;
            }
            if (kind != SEMICOLON) {
                return fail(CANNOT_COME);
            }
            plan.devices++;
            return true;
        }

        private boolean readParent(int d) {
            if (key != Key.IN) {
                return true;
            }
            step();
            if (!isPlainWord()) {
                return fail(CANNOT_COME);
            }
            int parent = placeOfName(plan.deviceName, plan.devices, code);
            if (parent == NONE) {
                return fail(WRONG_NAME);
            }
            plan.putParent(d, parent);
            step();
            return true;
        }

        private boolean readNeeds(int d) {
            for (int n = 0; key == Key.NEEDS; n++) {
                if (n >= NEEDS) {
                    return fail(TOO_MANY);
                }
                step();
                int s = readSupply();
                if (s == NONE) {
                    return false;
                }
                plan.putNeed(d, s);
                step();
            }
            return true;
        }

        private boolean readDriver() {
            int r = plan.drivers;
            if (r >= DRIVERS) {
                return fail(TOO_MANY);
            }
            step();
            if (!isNewName()) {
                return false;
            }
            plan.driverName[r] = code;
            if (!readPatterns(r) || !readSteps(r)) {
                return false;
            }
            if (kind != SEMICOLON) {
                return fail(CANNOT_COME);
            }
            plan.drivers++;
            return true;
        }

        private boolean readPatterns(int r) {
            boolean more = true;
            for (int n = 0; more; n++) {
                if (n >= PATTERNS) {
                    return fail(TOO_MANY);
                }
                step();
                if (kind != SIGNS) {
                    return fail(CANNOT_COME);
                }
                patternFrom[r * PATTERNS + n] = begin + 1;
                patternTo[r * PATTERNS + n] = after;
                plan.patterns[r] = n + 1;
                step();
                more = key == Key.OR;
            }
            return true;
        }

        private boolean readSteps(int r) {
            for (int n = 0; key != null && key.isStep(); n++) {
                if (n >= STEPS) {
                    return fail(TOO_MANY);
                }
                Key what = key;
                int value = 0;
                if (what != Key.BREAK) {
                    step();
                    boolean numbered = what == Key.MAP || what == Key.LINE;
                    value = numbered ? readNumber(what) : readSupply();
                }
                if (value == NONE) {
                    return false;
                }
                plan.putStep(r, what, value);
                step();
            }
            return true;
        }

        /** NONE: a FAULT. */
        private int readNumber(Key what) {
            if (kind != NUMBER) {
                fail(CANNOT_COME);
                return NONE;
            }
            int value = 0;
            for (int i = begin; i < after; i++) {
                value = value * 10 + tape.at(i) - '0';
            }
            if (what == Key.MAP ? value < 1 : value >= LINES) {
                fail(NOT_AS_TOLD);
                return NONE;
            }
            return value;
        }

        /** NONE: a FAULT. */
        private int readSupply() {
            if (!isPlainWord()) {
                fail(CANNOT_COME);
                return NONE;
            }
            int s = placeOfName(plan.supplyName, plan.supplies, code);
            if (s != NONE) {
                return s;
            }
            if (plan.supplies >= SUPPLIES) {
                fail(TOO_MANY);
                return NONE;
            }
            s = plan.supplies;
            plan.supplyName[s] = code;
            plan.supplies++;
            return s;
        }

        private boolean isNewName() {
            if (!isPlainWord()) {
                return fail(CANNOT_COME);
            }
            return !plan.hasName(code) || fail(WRONG_NAME);
        }

        private boolean isPlainWord() {
            return kind == WORD && key == null;
        }

        /** To the next TOKEN: it stands from begin up to after. */
        private void step() {
            key = null;
            code = 0;
            begin = after;
            while (begin < tape.size && (tape.at(begin) == ' ' || tape.at(begin) == '\n')) {
                begin++;
            }
            after = begin + 1;
            if (begin >= tape.size) {
                begin = tape.size;
                after = begin;
                kind = END;
            } else if (tape.at(begin) == ';') {
                kind = SEMICOLON;
            } else if (tape.at(begin) == ':') {
                stepSigns();
            } else {
                stepPlain();
            }
        }

        private void stepSigns() {
            while (after < tape.size && isPatternSign(tape.at(after))) {
                after++;
            }
            int signs = after - begin - 1;
            kind = signs >= 1 && signs <= MOST_SIGNS ? SIGNS : NO_TOKEN;
        }

        private void stepPlain() {
            after = begin;
            int digits = 0;
            while (after < tape.size && (isLetter(tape.at(after)) || isDigit(tape.at(after)))) {
                digits += isDigit(tape.at(after)) ? 1 : 0;
                after++;
            }
            code = tape.wordCode(begin, after);
            if (code != 0) {
                kind = WORD;
                key = Key.withCode(code);
            } else {
                boolean whole = digits == after - begin;
                kind = whole && digits >= 1 && digits <= MOST_DIGITS ? NUMBER : NO_TOKEN;
            }
        }

        private static boolean isPatternSign(int sign) {
            return isLetter(sign) || isDigit(sign) || sign == '?' || sign == '*';
        }

        private int literals(int from, int to) {
            int found = 0;
            for (int i = from; i < to; i++) {
                found += tape.at(i) == '?' || tape.at(i) == '*' ? 0 : 1;
            }
            return found;
        }

        private void scoreAll() {
            for (int d = 0; d < plan.devices; d++) {
                for (int r = 0; r < plan.drivers; r++) {
                    plan.putScore(r, d, bestScore(r, d));
                }
            }
        }

        private int bestScore(int r, int d) {
            int best = NONE;
            for (int n = 0; n < plan.patterns[r]; n++) {
                int from = patternFrom[r * PATTERNS + n];
                int to = patternTo[r * PATTERNS + n];
                if (matches(from, to, d)) {
                    best = Math.max(best, literals(from, to));
                }
            }
            return best;
        }

        /** Carries, as bits, how many of the ID's signs the PATTERN so far may have used up. */
        private boolean matches(int from, int to, int d) {
            int length = idTo[d] - idFrom[d];
            int all = (1 << length + 1) - 1;
            int used = 1;
            for (int i = from; i < to; i++) {
                int sign = tape.at(i);
                if (sign == '*') {
                    used = all & -Integer.lowestOneBit(used);
                } else if (sign == '?') {
                    used = all & used << 1;
                } else {
                    used = all & (used & placesOfSign(sign, d)) << 1;
                }
            }
            return (used >> length & 1) == 1;
        }

        private int placesOfSign(int sign, int d) {
            int bits = 0;
            for (int i = idFrom[d]; i < idTo[d]; i++) {
                if (tape.at(i) == sign) {
                    bits |= 1 << i - idFrom[d];
                }
            }
            return bits;
        }
    }

    /** The LOG: the latest rows; one of no rows keeps nothing and serves the trials. */
    private static final class Journal {
        private static final int CELLS = 3;

        private static final int IS_BOUND = 1;
        private static final int IS_PUT_OFF = 2;
        private static final int HAS_FAILED = 3;
        private static final int IS_LET_GO = 4;
        private static final int IS_SYNCED = 5;
        private static final int LINE_FREE = 6;
        private static final int POOL_FREE = 7;
        private static final int SUPPLY_FREE = 8;

        private final int rows;
        private final int[] cells;
        private int next;
        int size;

        Journal(int rows) {
            this.rows = rows;
            cells = new int[rows * CELLS];
        }

        void clear() {
            next = 0;
            size = 0;
        }

        void write(int which, int d, int with) {
            if (rows == 0) {
                return;
            }
            int at = next * CELLS;
            cells[at] = which;
            cells[at + 1] = d;
            cells[at + 2] = with;
            next = next + 1 == rows ? 0 : next + 1;
            size = Math.min(size + 1, rows);
        }

        /** Of the i-th row from the latest on; the caller has looked that there is one. */
        int cell(int i, int what) {
            int back = next - 1 - i;
            int at = back < 0 ? back + rows : back;
            return cells[at * CELLS + what];
        }
    }

    /** DEVICES in some order, each at most once. */
    private static final class Row {
        final int[] items = new int[DEVICES];
        int size;

        void clear() {
            size = 0;
        }

        void append(int d) {
            if (size < DEVICES) {
                items[size] = d;
                size++;
            }
        }

        void drop(int d) {
            int kept = 0;
            for (int i = 0; i < size; i++) {
                if (items[i] != d) {
                    items[kept] = items[i];
                    kept++;
                }
            }
            size = kept;
        }

        int at(int i) {
            return i >= 0 && i < size ? items[i] : NONE;
        }

        int placeOf(int d) {
            for (int i = 0; i < size; i++) {
                if (items[i] == d) {
                    return i;
                }
            }
            return NONE;
        }

        int bits() {
            int found = 0;
            for (int i = 0; i < size; i++) {
                found |= 1 << items[i];
            }
            return found;
        }

        void copyFrom(Row other) {
            System.arraycopy(other.items, 0, items, 0, DEVICES);
            size = other.size;
        }
    }

    /** What stands: STATES, LINKS and all that is taken. A second one serves for what would be. */
    private static final class Bench {
        private static final int PARENT_NOT_BOUND = 1;
        private static final int NOT_GIVEN = 2;
        private static final int IS_ABOVE = 3;
        private static final int LINE_TAKEN = 4;
        private static final int POOL_TOO_LOW = 5;
        private static final int GIVEN_ALREADY = 6;
        private static final int BROKEN = 7;

        private Plan plan;
        private final Journal journal;
        final int[] state = new int[DEVICES];
        final int[] driverOf = new int[DEVICES];
        final int[] reason = new int[DEVICES];
        final int[] cause = new int[DEVICES];
        final int[] high = new int[DEVICES];
        final int[] consumes = new int[DEVICES];
        final int[] linked = new int[DEVICES];
        final int[] lineOwner = new int[LINES];
        final int[] giver = new int[SUPPLIES];
        final Row row = new Row();
        private final Row pass = new Row();
        /** The BOUND ones, the latest last. */
        final Row bound = new Row();
        /** Those LET GO by this call, in order. */
        final Row gone = new Row();
        int pool;
        int loaded;
        int synced;
        /** How many were BOUND by this call. */
        int boundNow;

        Bench(Plan plan, Journal journal) {
            this.journal = journal;
            reset(plan);
        }

        void reset(Plan told) {
            plan = told;
            Arrays.fill(state, AWAY);
            Arrays.fill(driverOf, NONE);
            Arrays.fill(reason, 0);
            Arrays.fill(cause, NONE);
            Arrays.fill(high, 0);
            Arrays.fill(consumes, 0);
            Arrays.fill(linked, 0);
            Arrays.fill(lineOwner, NONE);
            Arrays.fill(giver, NONE);
            row.clear();
            bound.clear();
            pool = POOL;
            loaded = 0;
            synced = 0;
            begin();
        }

        void copyFrom(Bench other) {
            plan = other.plan;
            System.arraycopy(other.state, 0, state, 0, DEVICES);
            System.arraycopy(other.driverOf, 0, driverOf, 0, DEVICES);
            System.arraycopy(other.reason, 0, reason, 0, DEVICES);
            System.arraycopy(other.cause, 0, cause, 0, DEVICES);
            System.arraycopy(other.high, 0, high, 0, DEVICES);
            System.arraycopy(other.consumes, 0, consumes, 0, DEVICES);
            System.arraycopy(other.linked, 0, linked, 0, DEVICES);
            System.arraycopy(other.lineOwner, 0, lineOwner, 0, LINES);
            System.arraycopy(other.giver, 0, giver, 0, SUPPLIES);
            row.copyFrom(other.row);
            bound.copyFrom(other.bound);
            pool = other.pool;
            loaded = other.loaded;
            synced = other.synced;
        }

        void begin() {
            boundNow = 0;
            gone.clear();
        }

        boolean isLoaded(int r) {
            return (loaded >> r & 1) == 1;
        }

        // ---- binding

        void install(int r) {
            loaded |= 1 << r;
            for (int d = 0; d < plan.devices; d++) {
                if (isWaitingState(state[d]) && plan.score[r][d] != NONE) {
                    attempt(d);
                }
            }
        }

        /** To TRY a DEVICE. */
        void attempt(int d) {
            for (int i = 0; i < plan.ranked[d]; i++) {
                int r = plan.rank[d][i];
                if (isLoaded(r) && endsWith(d, r)) {
                    return;
                }
            }
            makeIdle(d);
        }

        /** A PROBE; false: it FAILED, so that the next DRIVER comes. */
        boolean endsWith(int d, int r) {
            cause[d] = NONE;
            int parent = plan.parent[d];
            int why = 0;
            if (parent != NONE && state[parent] != BOUND) {
                why = PARENT_NOT_BOUND;
                cause[d] = parent;
            }
            for (int i = 0; i < plan.needs[d] && why == 0; i++) {
                why = consume(d, plan.need[d * NEEDS + i]);
            }
            int done = 0;
            for (int i = r * STEPS; done < plan.steps[r] && why == 0; i++) {
                int value = plan.stepValue[i];
                why = plan.stepKey[i] == Key.GET ? consume(d, value) : take(d, plan.stepKey[i], value);
                done += why == 0 ? 1 : 0;
            }
            reason[d] = why;
            if (why == 0) {
                hold(d, r);
                return true;
            }
            release(d, r, done);
            boolean putOff = why == PARENT_NOT_BOUND || why == NOT_GIVEN;
            journal.write(putOff ? Journal.IS_PUT_OFF : Journal.HAS_FAILED, d, r);
            if (putOff) {
                defer(d);
            }
            return putOff;
        }

        /** A get: the number of the REASON, 0 if it went well. */
        private int consume(int d, int s) {
            int from = giver[s];
            if (from == NONE) {
                cause[d] = s;
                return NOT_GIVEN;
            }
            if (from == d) {
                return 0;
            }
            if ((above(from) >> d & 1) == 1) {
                cause[d] = from;
                return IS_ABOVE;
            }
            consumes[d] |= 1 << from;
            return 0;
        }

        /** A STEP other than get: the number of the REASON, 0 if it went well. */
        private int take(int d, Key key, int value) {
            if (key == Key.LINE) {
                cause[d] = lineOwner[value];
                if (cause[d] != NONE) {
                    return LINE_TAKEN;
                }
                lineOwner[value] = d;
                return 0;
            }
            if (key == Key.GIVE) {
                cause[d] = giver[value];
                if (cause[d] != NONE) {
                    return GIVEN_ALREADY;
                }
                giver[value] = d;
                return 0;
            }
            if (key == Key.MAP) {
                if (pool < value) {
                    return POOL_TOO_LOW;
                }
                pool -= value;
                return 0;
            }
            return BROKEN;
        }

        private void hold(int d, int r) {
            state[d] = BOUND;
            driverOf[d] = r;
            row.drop(d);
            bound.append(d);
            linked[d] |= consumes[d];
            high[d] = heightOf(d);
            boundNow++;
            journal.write(Journal.IS_BOUND, d, r);
        }

        /** It can't change while the DEVICE is BOUND: all below would be LET GO behind it. */
        private int heightOf(int d) {
            int below = consumes[d] | plan.parentBit[d];
            int height = 0;
            for (int e = 0; e < plan.devices; e++) {
                if ((below >> e & 1) == 1) {
                    height = Math.max(height, high[e] + 1);
                }
            }
            return height;
        }

        private void defer(int d) {
            state[d] = DEFERRED;
            if (row.placeOf(d) == NONE) {
                row.append(d);
            }
        }

        void makeIdle(int d) {
            state[d] = IDLE;
            row.drop(d);
        }

        /** The passes along the ROW; each but the last binds one at least. */
        void settle() {
            boolean again = boundNow > 0;
            for (int n = 0; n <= DEVICES && again; n++) {
                int before = boundNow;
                pass.copyFrom(row);
                for (int i = 0; i < pass.size; i++) {
                    if (state[pass.items[i]] == DEFERRED) {
                        attempt(pass.items[i]);
                    }
                }
                again = boundNow > before;
            }
        }

        void sync() {
            for (int d = 0; d < plan.devices; d++) {
                boolean candidate = state[d] == BOUND && (synced >> d & 1) == 0;
                if (candidate && givenBy(d) != 0 && allHaveCome(d)) {
                    synced |= 1 << d;
                    journal.write(Journal.IS_SYNCED, d, NONE);
                }
            }
        }

        private boolean allHaveCome(int d) {
            int given = givenBy(d);
            for (int e = 0; e < plan.devices; e++) {
                boolean supplied = (plan.needBits[e] & given) != 0 || (linked[e] >> d & 1) == 1;
                if (supplied && isWaitingState(state[e])) {
                    return false;
                }
            }
            return true;
        }

        // ---- letting go

        /** It is DEFERRED behind this; the caller makes the one that the call tells IDLE or AWAY. */
        private void letGo(int d, int depth) {
            if (depth > DEVICES || state[d] != BOUND) {
                return;
            }
            int leaning = latestLeaningOn(d);
            for (int n = 0; n < DEVICES && leaning != NONE; n++) {
                letGo(leaning, depth + 1);
                leaning = latestLeaningOn(d);
            }
            int r = driverOf[d];
            release(d, r, plan.steps[r]);
            journal.write(Journal.IS_LET_GO, d, r);
            bound.drop(d);
            gone.append(d);
            synced &= ~(1 << d);
            defer(d);
        }

        private int latestLeaningOn(int d) {
            for (int i = bound.size - 1; i >= 0; i--) {
                int e = bound.items[i];
                if (plan.parent[e] == d || (consumes[e] >> d & 1) == 1) {
                    return e;
                }
            }
            return NONE;
        }

        /** Undoes the first STEPS of the DRIVER, the latest of them first. */
        private void release(int d, int r, int done) {
            for (int i = r * STEPS + done - 1; i >= r * STEPS; i--) {
                int value = plan.stepValue[i];
                if (plan.stepKey[i] == Key.LINE) {
                    lineOwner[value] = NONE;
                    journal.write(Journal.LINE_FREE, d, value);
                } else if (plan.stepKey[i] == Key.MAP) {
                    pool += value;
                    journal.write(Journal.POOL_FREE, d, value);
                } else if (plan.stepKey[i] == Key.GIVE) {
                    giver[value] = NONE;
                    journal.write(Journal.SUPPLY_FREE, d, value);
                }
            }
            consumes[d] = 0;
        }

        void withdraw(int r) {
            loaded &= ~(1 << r);
            int d = latestBoundTo(r);
            for (int n = 0; n < DEVICES && d != NONE; n++) {
                letGo(d, 0);
                makeIdle(d);
                d = latestBoundTo(r);
            }
        }

        private int latestBoundTo(int r) {
            for (int i = bound.size - 1; i >= 0; i--) {
                if (driverOf[bound.items[i]] == r) {
                    return bound.items[i];
                }
            }
            return NONE;
        }

        /** Numbers of those under a DEVICE are above its own, so downwards is from them to it. */
        int takeAway(int top) {
            int came = 0;
            for (int d = plan.devices - 1; d >= top; d--) {
                if (state[d] != AWAY && isUnder(d, top)) {
                    if (state[d] == BOUND) {
                        letGo(d, 0);
                    }
                    makeAway(d);
                    came++;
                }
            }
            return came;
        }

        private boolean isUnder(int d, int top) {
            int at = d;
            for (int n = 0; n < DEVICES && at != NONE && at != top; n++) {
                at = plan.parent[at];
            }
            return at == top;
        }

        private void makeAway(int d) {
            state[d] = AWAY;
            row.drop(d);
            reason[d] = 0;
            cause[d] = NONE;
        }

        // ---- questions

        /** The DEVICES ABOVE this one, as bits. */
        int above(int d) {
            int found = 0;
            int fresh = linked[d] | plan.parentBit[d];
            for (int n = 0; n < DEVICES && fresh != 0; n++) {
                found |= fresh;
                int next = 0;
                for (int e = 0; e < plan.devices; e++) {
                    if ((fresh >> e & 1) == 1) {
                        next |= linked[e] | plan.parentBit[e];
                    }
                }
                fresh = next & ~found;
            }
            return found;
        }

        int inLine(int d, int place) {
            int left = place;
            for (int i = 0; i < plan.ranked[d]; i++) {
                int r = plan.rank[d][i];
                if (isLoaded(r)) {
                    if (left == 0) {
                        return r;
                    }
                    left--;
                }
            }
            return NONE;
        }

        int givenBy(int d) {
            return placesOf(giver, SUPPLIES, d);
        }

        int poolOf(int d) {
            if (state[d] != BOUND) {
                return 0;
            }
            int from = driverOf[d] * STEPS;
            int sum = 0;
            for (int i = from; i < from + plan.steps[driverOf[d]]; i++) {
                sum += plan.stepKey[i] == Key.MAP ? plan.stepValue[i] : 0;
            }
            return sum;
        }

        int boundTo(int r) {
            int found = 0;
            for (int i = 0; i < bound.size; i++) {
                found += driverOf[bound.items[i]] == r ? 1 : 0;
            }
            return found;
        }

        int linkCount() {
            int sum = 0;
            for (int d = 0; d < plan.devices; d++) {
                sum += Integer.bitCount(linked[d]);
            }
            return sum;
        }

        /** What the DEVICE LACKS, as bits. */
        int lacks(int d) {
            int first = inLine(d, 0);
            int asked = plan.needBits[d] | (first == NONE ? 0 : plan.getBits[first]);
            return asked & placesOf(giver, SUPPLIES, NONE);
        }

        /** The DEVICES for which this one WAITS, as bits. */
        int waitsFor(int d) {
            if (!isWaitingState(state[d])) {
                return 0;
            }
            int parent = plan.parent[d];
            int found = parent != NONE && state[parent] != BOUND ? plan.parentBit[d] : 0;
            int lacked = lacks(d);
            for (int e = 0; e < plan.devices; e++) {
                int first = e != d && isWaitingState(state[e]) ? inLine(e, 0) : NONE;
                if (first != NONE && (plan.giveBits[first] & lacked) != 0) {
                    found |= 1 << e;
                }
            }
            return found;
        }
    }

    /** Seeks RINGS; its rows are made once and used again. */
    private static final class Ring {
        private final int[] waits = new int[DEVICES];
        /** Of each distance those from which the way back to the DEVICE is so long, as bits. */
        private final int[] near = new int[DEVICES];
        private final Row row = new Row();

        /** The RING of a DEVICE; an empty row: it is in none. */
        Row seek(Bench bench, int d) {
            row.clear();
            for (int e = 0; e < DEVICES; e++) {
                waits[e] = e < bench.plan.devices ? bench.waitsFor(e) : 0;
            }
            int length = shortestWay(d);
            if (length == 0) {
                return row;
            }
            row.append(d);
            int at = d;
            for (int left = length - 1; left >= 1; left--) {
                int lowest = Integer.lowestOneBit(waits[at] & near[left]);
                if (lowest == 0) {
                    return row;
                }
                at = Integer.numberOfTrailingZeros(lowest);
                row.append(at);
            }
            return row;
        }

        /** How long the RING is; 0: there is none. */
        private int shortestWay(int d) {
            near[0] = 1 << d;
            int seen = near[0];
            for (int k = 1; k < DEVICES; k++) {
                near[k] = 0;
                for (int e = 0; e < DEVICES; e++) {
                    if ((seen >> e & 1) == 0 && (waits[e] & near[k - 1]) != 0) {
                        near[k] |= 1 << e;
                    }
                }
                seen |= near[k];
                if ((waits[d] & near[k]) != 0) {
                    return k + 1;
                }
            }
            return 0;
        }
    }
}
