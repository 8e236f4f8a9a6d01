import java.util.Arrays;

/** Sermons divided by a bishop's cough, whose parts are let to families: see README.md. */
public final class CoughParts {
    public static final int NONE = -1;

    private static final int NOBODY = -2;
    private static final int NOTHING = -2;
    private static final int NO_NUMBER = -100000000;

    private static final int MOST_MINUTES = 10;
    private static final int MOST_FAMILIES = 5;
    private static final int PARTS = 8;
    private static final int LAST_PART = PARTS - 1;
    private static final int ALL_PARTS = (1 << PARTS) - 1;
    private static final int MOST_MATTER = 5;
    // ZEAL, DUST and SYRUP all go from 0 to this.
    private static final int TOP_OF_SCALE = 9;
    private static final int MOST_WEEKS = 40;
    private static final int MOST_SEEDS = 20;
    private static final int MOST_CHOICE = 3;

    private final Tape tape;
    private final Reader reader;
    private final Text text;
    private final State state;
    private final State trial;
    private final Past past;
    private final Laws laws;
    private final Chances chances;
    private final Preacher preacher;
    private final Coverage coverage;
    private final Witness witness;

    public CoughParts() {
        tape = new Tape();
        reader = new Reader(tape);
        text = new Text();
        state = new State();
        trial = new State();
        past = new Past();
        laws = new Laws(text);
        chances = new Chances(text, laws);
        preacher = new Preacher(text, laws);
        coverage = new Coverage(text, chances);
        witness = new Witness(text, chances);
        state.begin(text);
    }

    public int feed(int a, int b, int c, int d, int e) {
        if (!tape.hasRoomFor(20)) {
            return NONE;
        }
        tape.putInt(a);
        tape.putInt(b);
        tape.putInt(c);
        tape.putInt(d);
        tape.putInt(e);
        return tape.length;
    }

    public int back(int n) {
        if (!within(n, 0, tape.length)) {
            return NONE;
        }
        tape.length -= n;
        return tape.length;
    }

    public int read() {
        int fault = reader.readAll();
        tape.length = 0;
        if (fault == 0) {
            text.copyFrom(reader.draft);
            state.begin(text);
            past.clearThings();
            past.clearSlots();
            witness.size = 0;
        }
        return fault;
    }

    public int place() {
        return reader.faultPlace;
    }

    public int minute(int minute, int what) {
        if (!isMinute(minute)) {
            return NONE;
        }
        switch (what) {
            case 0: return state.matterOf(minute);
            case 1: return laws.quartersOf(state, minute);
            case 2: return preacher.coughsBehind(state, minute, text.seed) ? 1 : 0;
            default: return NONE;
        }
    }

    public int family(int family, int what) {
        if (!isFamily(family)) {
            return NONE;
        }
        switch (what) {
            case 0: return text.zeal[family];
            case 1: return text.love[family];
            case 2: return state.partsOf(family);
            case 3: return state.gainedBy(family);
            case 4: return state.paidBy(family);
            case 5: return laws.rentOf(state, family);
            case 6: return laws.cureFor(state, family);
            default: return NONE;
        }
    }

    public int lease(int part) {
        return isPart(part) ? state.ownerOf(part) : NONE;
    }

    public int worth(int family, int minute, int part) {
        if (!isFamily(family) || !isMinute(minute) || !isPart(part)) {
            return NONE;
        }
        return laws.worthTo(state, family, minute, part);
    }

    public boolean change(int minute, int other) {
        if (!isMinute(minute) || !isMinute(other) || state.matterOf(minute) == state.matterOf(other)) {
            return false;
        }
        past.keep(state);
        state.exchange(minute, other);
        return true;
    }

    public boolean let(int part, int family) {
        if (!isPart(part) || (family != NONE && !isFamily(family))) {
            return false;
        }
        int owner = family == NONE ? NOBODY : family;
        if (state.ownerOf(part) == owner) {
            return false;
        }
        past.keep(state);
        state.setOwner(part, owner);
        return true;
    }

    public boolean syrup(boolean more) {
        return give(State.SYRUP, more);
    }

    public boolean dust(boolean more) {
        return give(State.DUST, more);
    }

    public int weeks(int n) {
        if (!within(n, 0, MOST_WEEKS)) {
            return NONE;
        }
        if (n > 0) {
            past.keep(state);
            preacher.preachWeeks(state, n, text.seed);
        }
        return state.cells[State.WEEK];
    }

    public boolean undo() {
        return past.takeBack(state);
    }

    public int odds(int p) {
        if (!within(p, 0, PARTS)) {
            return NONE;
        }
        chances.weigh(state);
        return chances.casesOfParts(p);
    }

    public int falls(int minute, int part) {
        if (!isMinute(minute) || !isPart(part)) {
            return NONE;
        }
        chances.weigh(state);
        return chances.casesIn(minute, part);
    }

    public int value(int family, int part) {
        if (!isFamily(family) || !isPart(part)) {
            return NONE;
        }
        chances.weigh(state);
        return chances.valueOf(state, family, 1 << part);
    }

    public int have(int family) {
        return isFamily(family) ? haveIn(state, family) : NONE;
    }

    public int mode(int minute, int what) {
        if (!isMinute(minute) || !within(what, 0, 1)) {
            return NONE;
        }
        chances.weigh(state);
        int best = 0;
        for (int part = 1; part < PARTS; part++) {
            if (chances.casesIn(minute, part) > chances.casesIn(minute, best)) {
                best = part;
            }
        }
        return what == 0 ? best : chances.casesIn(minute, best);
    }

    public int mean() {
        chances.weigh(state);
        int sum = 0;
        for (int p = 1; p <= PARTS; p++) {
            sum += p * chances.casesOfParts(p);
        }
        return sum;
    }

    public int both(int minute, int other) {
        if (!isMinute(minute) || !isMinute(other)) {
            return NONE;
        }
        chances.weigh(state);
        return chances.casesTogether(Math.min(minute, other), Math.max(minute, other));
    }

    public int with(int part, int much) {
        if (!isPart(part) || !within(much, 0, MOST_MINUTES)) {
            return NONE;
        }
        chances.weigh(state);
        return chances.casesHolding(part, much);
    }

    public int buy(int family, int what) {
        if (!isFamily(family) || !within(what, 0, 1)) {
            return NONE;
        }
        chances.weigh(state);
        int best = NOTHING;
        int most = NOTHING;
        for (int part = 0; part < PARTS; part++) {
            if (state.ownerOf(part) == NOBODY) {
                int much = chances.valueOf(state, family, 1 << part);
                if (much > most) {
                    best = part;
                    most = much;
                }
            }
        }
        return what == 0 ? best : most;
    }

    public int swap(int family, int what) {
        if (!isFamily(family) || !within(what, 0, 1)) {
            return NONE;
        }
        int best = NOTHING;
        int most = haveIn(state, family);
        for (int lesser = 0; lesser < text.minutes; lesser++) {
            for (int other = lesser + 1; other < text.minutes; other++) {
                int much = haveAfterChange(family, lesser, other);
                if (much > most) {
                    best = 10 * lesser + other;
                    most = much;
                }
            }
        }
        return what == 0 || best == NOTHING ? best : most;
    }

    public int sure(int family, int matter) {
        if (!isFamily(family) || !isMatter(matter)) {
            return NONE;
        }
        coverage.look(state, matter);
        return coverage.isMetBy(state.partsOf(family)) ? 1 : 0;
    }

    public int cover(int matter, int what) {
        if (!isMatter(matter) || !within(what, 0, 1)) {
            return NONE;
        }
        if ((mattersThereAre() >> matter & 1) == 0) {
            return NOTHING;
        }
        coverage.look(state, matter);
        int fewest = coverage.fewestParts();
        return what == 0 ? Integer.bitCount(fewest) : fewest;
    }

    public int pepper(int family) {
        return isFamily(family) ? gainByOneMore(family, State.DUST) : NO_NUMBER;
    }

    public int soothes(int family) {
        return isFamily(family) ? gainByOneMore(family, State.SYRUP) : NO_NUMBER;
    }

    public int game(int family, int other, int what) {
        if (!isFamily(family) || !isFamily(other) || family == other || !within(what, 0, 2)) {
            return NONE;
        }
        int bestDust = 0;
        int bestSyrup = 0;
        int most = NONE;
        for (int dust = 0; dust <= choicesOf(State.DUST); dust++) {
            int syrup = answerTo(dust, other);
            int much = haveAfter(family, dust, syrup);
            if (much > most) {
                bestDust = dust;
                bestSyrup = syrup;
                most = much;
            }
        }
        if (what == 0) {
            return bestDust;
        }
        return what == 1 ? bestSyrup : most;
    }

    public int cure() {
        chances.weigh(state);
        int bits = 0;
        for (int family = 0; family < text.families; family++) {
            // CASES are a power of four, so the shift divides and rounds down.
            int each = chances.haveOf(state, family) >> 2 * text.minutes;
            if (laws.cureFor(state, family) > each) {
                bits |= 1 << family;
            }
        }
        return bits;
    }

    public int richest(int what) {
        if (!within(what, 0, 1)) {
            return NONE;
        }
        chances.weigh(state);
        int best = NOTHING;
        int most = NOTHING;
        for (int family = 0; family < text.families; family++) {
            int much = chances.haveOf(state, family);
            if (much > most) {
                best = family;
                most = much;
            }
        }
        return what == 0 ? best : most;
    }

    public int likely(int what) {
        if (!within(what, 0, 1)) {
            return NONE;
        }
        int bits = 0;
        int cases = 1;
        for (int minute = 0; minute < text.minutes; minute++) {
            int quarters = laws.quartersOf(state, minute);
            if (quarters > 4 - quarters) {
                bits |= 1 << minute;
            }
            cases *= Math.max(quarters, 4 - quarters);
        }
        return what == 0 ? bits : cases;
    }

    public int gains(int family, int n) {
        if (!isFamily(family) || !within(n, 0, MOST_WEEKS)) {
            return NO_NUMBER;
        }
        tryWeeks(n, text.seed);
        return trial.profitOf(family) - state.profitOf(family);
    }

    public int partsIn(int n) {
        if (!within(n, 0, MOST_WEEKS)) {
            return NONE;
        }
        tryWeeks(n, text.seed);
        return trial.cells[State.HEARD];
    }

    public int year(int family, int n, int s) {
        if (!isFamily(family) || !within(n, 0, MOST_WEEKS) || !within(s, 1, MOST_SEEDS)) {
            return NONE;
        }
        int seeds = 0;
        for (int i = 0; i < s; i++) {
            tryWeeks(n, text.seed + i);
            if (trial.profitOf(family) > 0) {
                seeds++;
            }
        }
        return seeds;
    }

    public int tell(int minute, int part, boolean so) {
        if (!isMinute(minute) || !isPart(part)) {
            return NONE;
        }
        return witness.add(minute, part, so);
    }

    public int forget() {
        int were = witness.size;
        witness.size = 0;
        return were;
    }

    public int when(int k, int what) {
        if (!within(k, 0, witness.size) || !within(what, 0, 3)) {
            return NONE;
        }
        witness.sift(state, k);
        if (what == 0) {
            return witness.left;
        }
        if (witness.left == 0) {
            return NOTHING;
        }
        switch (what) {
            case 1: return witness.least;
            case 2: return witness.inAll;
            default: return witness.inNone;
        }
    }

    public int ask(int k) {
        if (!within(k, 0, witness.size)) {
            return NONE;
        }
        witness.sift(state, k);
        return witness.left == 0 ? NOTHING : witness.bestQuestion();
    }

    public boolean hold(int slot) {
        return past.putInSlot(slot, state);
    }

    public boolean restore(int slot) {
        if (!past.getFromSlot(slot, state)) {
            return false;
        }
        past.clearThings();
        return true;
    }

    public int count(int what) {
        switch (what) {
            case 0: return text.minutes;
            case 1: return text.families;
            case 2: return state.cells[State.WEEK];
            case 3: return state.cells[State.DUST];
            case 4: return state.cells[State.SYRUP];
            case 5: return state.cells[State.COUGHED];
            case 6: return state.cells[State.HEARD];
            case 7: return 1 << 2 * text.minutes;
            case 8: return tape.length;
            case 9: return past.things;
            case 10: return witness.size;
            case 11: return past.slotsHeld();
            case 12: return ALL_PARTS & ~state.partsOf(NOBODY);
            case 13: return state.gainedByAll();
            case 14: return state.paidByAll();
            case 15: return mattersThereAre();
            case 16: return Integer.bitCount(state.partsOf(NOBODY));
            case 17: return sureCoughs();
            case 18: return allQuarters();
            case 19: return familiesWithoutLease();
            case 20: return allZeal();
            default: return NONE;
        }
    }

    private static boolean within(int number, int least, int most) {
        return least <= number && number <= most;
    }

    private static boolean isPart(int part) {
        return within(part, 0, LAST_PART);
    }

    private static boolean isMatter(int matter) {
        return within(matter, 0, MOST_MATTER);
    }

    private boolean isMinute(int minute) {
        return within(minute, 0, text.minutes - 1);
    }

    private boolean isFamily(int family) {
        return within(family, 0, text.families - 1);
    }

    private boolean give(int cell, boolean more) {
        int then = state.cells[cell] + (more ? 1 : -1);
        if (!within(then, 0, TOP_OF_SCALE)) {
            return false;
        }
        past.keep(state);
        state.cells[cell] = then;
        return true;
    }

    private int haveIn(State some, int family) {
        chances.weigh(some);
        return chances.valueOf(some, family, some.partsOf(family));
    }

    private int haveAfterChange(int family, int minute, int other) {
        trial.copyFrom(state);
        trial.exchange(minute, other);
        return haveIn(trial, family);
    }

    private int haveAfter(int family, int moreDust, int moreSyrup) {
        trial.copyFrom(state);
        trial.cells[State.DUST] += moreDust;
        trial.cells[State.SYRUP] += moreSyrup;
        return haveIn(trial, family);
    }

    private int gainByOneMore(int family, int cell) {
        if (state.cells[cell] >= TOP_OF_SCALE) {
            return 0;
        }
        trial.copyFrom(state);
        trial.cells[cell]++;
        return haveIn(trial, family) - haveIn(state, family);
    }

    private int choicesOf(int cell) {
        return Math.min(MOST_CHOICE, TOP_OF_SCALE - state.cells[cell]);
    }

    private int answerTo(int moreDust, int family) {
        int best = 0;
        int most = NONE;
        for (int syrup = 0; syrup <= choicesOf(State.SYRUP); syrup++) {
            int much = haveAfter(family, moreDust, syrup);
            if (much > most) {
                best = syrup;
                most = much;
            }
        }
        return best;
    }

    private void tryWeeks(int n, int seed) {
        trial.copyFrom(state);
        preacher.preachWeeks(trial, n, seed);
    }

    private int mattersThereAre() {
        int bits = 0;
        for (int minute = 0; minute < text.minutes; minute++) {
            bits |= 1 << state.matterOf(minute);
        }
        return bits;
    }

    private int sureCoughs() {
        chances.weigh(state);
        return chances.always;
    }

    private int allQuarters() {
        int sum = 0;
        for (int minute = 0; minute < text.minutes; minute++) {
            sum += laws.quartersOf(state, minute);
        }
        return sum;
    }

    private int familiesWithoutLease() {
        int bits = 0;
        for (int family = 0; family < text.families; family++) {
            if (state.partsOf(family) == 0) {
                bits |= 1 << family;
            }
        }
        return bits;
    }

    private int allZeal() {
        int sum = 0;
        for (int family = 0; family < text.families; family++) {
            sum += text.zeal[family];
        }
        return sum;
    }

    /** Bytes that were fed and not yet read. */
    private static final class Tape {
        static final int MOST_BYTES = 2000;

        private final byte[] bytes = new byte[MOST_BYTES];
        int length;

        boolean hasRoomFor(int more) {
            return length + more <= MOST_BYTES;
        }

        void putInt(int four) {
            for (int shift = 24; shift >= 0; shift -= 8) {
                if (length < MOST_BYTES) {
                    bytes[length] = (byte) (four >> shift);
                    length++;
                }
            }
        }

        int byteAt(int place) {
            return 0 <= place && place < length ? bytes[place] & 255 : NONE;
        }
    }

    /** Finds the TOKENS of the tape; behind the last one stands END, or what is none. */
    private static final class Scanner {
        static final int MOST_TOKENS = 400;

        // A word's kind is its number in WORDS; a sign's kind is its own byte, which is 40 at least.
        static final int MINUTE = 0;
        static final int FAMILY = 1;
        static final int LEASE = 2;
        static final int COUGHS = 3;
        static final int WORTH = 4;
        static final int RENTS = 5;
        static final int CURES = 6;
        static final int DUST = 7;
        static final int SYRUP = 8;
        static final int SEED = 9;
        static final int IF = 10;
        static final int THEN = 11;
        static final int ELSE = 12;
        static final int FIRST_VAR = 13;
        static final int LAST_VAR = 21;
        static final int NAME = 22;
        static final int INT = 23;
        static final int END = 24;
        static final int NO_TOKEN = 25;

        private static final String WORDS =
                "minute family lease coughs worth rents cures dust syrup seed if then else now matter dusty sweet zeal love week part which ";
        private static final String SIGNS = ";=+-*/<()";
        private static final int MOST_LETTERS = 8;
        private static final int MOST_DIGITS = 4;

        final int[] kinds = new int[MOST_TOKENS + 1];
        final int[] places = new int[MOST_TOKENS + 1];
        final long[] values = new long[MOST_TOKENS + 1];

        private final Tape tape;
        private int next;
        private long value;

        Scanner(Tape tape) {
            this.tape = tape;
        }

        /** Nothing behind END, what is no TOKEN or the first TOKEN too many can be the first fault. */
        void scan() {
            next = 0;
            int kind = NAME;
            for (int i = 0; i <= MOST_TOKENS && kind != END && kind != NO_TOKEN; i++) {
                skipBlanks();
                places[i] = next;
                kind = scanToken();
                kinds[i] = kind;
                values[i] = value;
            }
        }

        private void skipBlanks() {
            while (next < tape.length && isBlank(tape.byteAt(next))) {
                next++;
            }
        }

        private int scanToken() {
            value = 0;
            int first = tape.byteAt(next);
            if (first == NONE) {
                return END;
            }
            if (isLetter(first)) {
                return scanLetters();
            }
            if (isDigit(first)) {
                return scanDigits();
            }
            next++;
            return SIGNS.indexOf((char) first) >= 0 ? first : NO_TOKEN;
        }

        private int scanLetters() {
            int first = next;
            while (next < tape.length && isLetter(tape.byteAt(next))) {
                value = withLetter(value, tape.byteAt(next));
                next++;
            }
            return next - first > MOST_LETTERS ? NO_TOKEN : kindOf(value);
        }

        private int scanDigits() {
            int first = next;
            while (next < tape.length && isDigit(tape.byteAt(next))) {
                value = value * 10 + tape.byteAt(next) - '0';
                next++;
            }
            return next - first > MOST_DIGITS ? NO_TOKEN : INT;
        }

        private static int kindOf(long name) {
            int word = 0;
            long spelt = 0;
            for (int i = 0; i < WORDS.length(); i++) {
                char letter = WORDS.charAt(i);
                if (letter != ' ') {
                    spelt = withLetter(spelt, letter);
                } else if (spelt == name) {
                    return word;
                } else {
                    word++;
                    spelt = 0;
                }
            }
            return NAME;
        }

        /** Up to eight letters fit a long, so that names are kept and compared without a text. */
        private static long withLetter(long spelt, int letter) {
            return spelt * 27 + (letter - 'a' + 1);
        }

        private static boolean isBlank(int sign) {
            return sign == 9 || sign == 10 || sign == 13 || sign == 32;
        }

        private static boolean isLetter(int sign) {
            return 'a' <= sign && sign <= 'z';
        }

        private static boolean isDigit(int sign) {
            return '0' <= sign && sign <= '9';
        }
    }

    /** What a text tells, before anything is done. */
    private static final class Text {
        static final int LAWS = 4;
        // A law has fewer codes than tokens; the laws that are not told have two each.
        static final int MOST_CODES = Scanner.MOST_TOKENS + 2 * LAWS;

        int minutes;
        int families;
        int dust;
        int syrup;
        int seed;
        int codes;
        final int[] matters = new int[MOST_MINUTES];
        final int[] zeal = new int[MOST_FAMILIES];
        final int[] love = new int[MOST_FAMILIES];
        final int[] owners = new int[PARTS];
        final int[] starts = new int[LAWS];
        final int[] operations = new int[MOST_CODES];
        final int[] numbers = new int[MOST_CODES];

        Text() {
            empty();
        }

        void empty() {
            minutes = 0;
            families = 0;
            dust = 0;
            syrup = 0;
            seed = 0;
            codes = 0;
            Arrays.fill(owners, NOBODY);
            putPlainLaw(Laws.COUGHS, Laws.NUMBER, 1);
            putPlainLaw(Laws.WORTH, Laws.NUMBER, 1);
            putPlainLaw(Laws.RENTS, Laws.VAR, Laws.ZEAL);
            putPlainLaw(Laws.CURES, Laws.NUMBER, 0);
        }

        void copyFrom(Text other) {
            minutes = other.minutes;
            families = other.families;
            dust = other.dust;
            syrup = other.syrup;
            seed = other.seed;
            codes = other.codes;
            System.arraycopy(other.matters, 0, matters, 0, MOST_MINUTES);
            System.arraycopy(other.zeal, 0, zeal, 0, MOST_FAMILIES);
            System.arraycopy(other.love, 0, love, 0, MOST_FAMILIES);
            System.arraycopy(other.owners, 0, owners, 0, PARTS);
            System.arraycopy(other.starts, 0, starts, 0, LAWS);
            System.arraycopy(other.operations, 0, operations, 0, MOST_CODES);
            System.arraycopy(other.numbers, 0, numbers, 0, MOST_CODES);
        }

        void startLaw(int law) {
            starts[law] = codes;
        }

        void putCode(int operation, int number) {
            if (codes < MOST_CODES) {
                operations[codes] = operation;
                numbers[codes] = number;
                codes++;
            }
        }

        /** A test jumps over an answer that is not yet there when the test is put. */
        void aimHere(int test) {
            if (0 <= test && test < codes) {
                numbers[test] = codes;
            }
        }

        private void putPlainLaw(int law, int operation, int number) {
            startLaw(law);
            putCode(operation, number);
            putCode(Laws.ANSWER, 0);
        }
    }

    /** Reads the tape's tells into a draft, which counts only if there is no fault. */
    private static final class Reader {
        private static final int SYNTAX = 1;
        private static final int ROOM = 2;
        private static final int TWICE = 3;
        private static final int UNNAMED = 4;
        private static final int WRONG = 5;
        private static final int MOST_LEASES = 8;
        private static final int MOST_SEED = 9999;
        private static final int MOST_IFS = 4;
        private static final int MOST_OPEN = 6;
        // At each level of brackets a sum and a product may wait, and the bracket itself.
        private static final int MOST_PENDING = 3 * (MOST_OPEN + 1);

        final Text draft = new Text();
        int faultPlace = NONE;

        private final Scanner scanner;
        private final long[] names = new long[MOST_FAMILIES];
        private final int[] pending = new int[MOST_PENDING];
        private int leases;
        private int pendings;
        private int open;
        private int at;
        private long taken;
        private int takenPlace;
        private int fault;
        private int laterFault;
        private int laterPlace;

        Reader(Tape tape) {
            scanner = new Scanner(tape);
        }

        int readAll() {
            scanner.scan();
            draft.empty();
            leases = 0;
            at = 0;
            fault = 0;
            faultPlace = NONE;
            laterFault = 0;
            laterPlace = NONE;
            boolean goesOn = true;
            for (int i = 0; i <= Scanner.MOST_TOKENS && goesOn && kindNow() != Scanner.END; i++) {
                goesOn = readTell();
            }
            if (fault == 0) {
                fault = laterFault;
                faultPlace = laterPlace;
            }
            return fault;
        }

        private boolean readTell() {
            int kind = kindNow();
            switch (kind) {
                case Scanner.MINUTE: return readMinute();
                case Scanner.FAMILY: return readFamily();
                case Scanner.LEASE: return readLease();
                case Scanner.COUGHS: return readLaw(Laws.COUGHS);
                case Scanner.WORTH: return readLaw(Laws.WORTH);
                case Scanner.RENTS: return readLaw(Laws.RENTS);
                case Scanner.CURES: return readLaw(Laws.CURES);
                case Scanner.DUST:
                case Scanner.SYRUP:
                case Scanner.SEED: return readSetting(kind);
                default: return fail(SYNTAX);
            }
        }

        private boolean readMinute() {
            if (draft.minutes >= MOST_MINUTES) {
                return fail(ROOM);
            }
            if (!take(Scanner.MINUTE) || !takeNumber(MOST_MATTER)) {
                return false;
            }
            draft.matters[draft.minutes] = (int) taken;
            draft.minutes++;
            return take(';');
        }

        private boolean readFamily() {
            int family = draft.families;
            if (family >= MOST_FAMILIES) {
                return fail(ROOM);
            }
            if (!take(Scanner.FAMILY) || !take(Scanner.NAME)) {
                return false;
            }
            if (familyNamed(taken) != NONE) {
                failLater(TWICE);
            }
            names[family] = taken;
            if (!takeNumber(TOP_OF_SCALE)) {
                return false;
            }
            draft.zeal[family] = (int) taken;
            if (!takeNumber(MOST_MATTER)) {
                return false;
            }
            draft.love[family] = (int) taken;
            draft.families++;
            return take(';');
        }

        private boolean readLease() {
            if (leases >= MOST_LEASES) {
                return fail(ROOM);
            }
            leases++;
            if (!take(Scanner.LEASE) || !take(Scanner.NAME)) {
                return false;
            }
            int family = familyNamed(taken);
            if (family == NONE) {
                failLater(UNNAMED);
            }
            if (!takeNumber(LAST_PART)) {
                return false;
            }
            int part = (int) taken;
            if (isPart(part)) {
                if (draft.owners[part] != NOBODY) {
                    failLater(TWICE);
                }
                draft.owners[part] = family;
            }
            return take(';');
        }

        private boolean readSetting(int sort) {
            if (!take(sort) || !takeNumber(sort == Scanner.SEED ? MOST_SEED : TOP_OF_SCALE)) {
                return false;
            }
            if (sort == Scanner.DUST) {
                draft.dust = (int) taken;
            } else if (sort == Scanner.SYRUP) {
                draft.syrup = (int) taken;
            } else {
                draft.seed = (int) taken;
            }
            return take(';');
        }

        private boolean readLaw(int law) {
            if (!take(kindNow()) || !take('=')) {
                return false;
            }
            draft.startLaw(law);
            for (int ifs = 0; ifs <= MOST_IFS && kindNow() == Scanner.IF; ifs++) {
                if (ifs == MOST_IFS) {
                    return fail(ROOM);
                }
                if (!take(Scanner.IF) || !readSum() || !take('<') || !readSum() || !take(Scanner.THEN)) {
                    return false;
                }
                int test = draft.codes;
                draft.putCode(Laws.TEST, 0);
                if (!readSum() || !take(Scanner.ELSE)) {
                    return false;
                }
                draft.putCode(Laws.ANSWER, 0);
                draft.aimHere(test);
            }
            if (!readSum() || !take(';')) {
                return false;
            }
            draft.putCode(Laws.ANSWER, 0);
            return true;
        }

        /** An E: its operators wait in pending until what they take is put, so that nothing calls itself. */
        private boolean readSum() {
            pendings = 0;
            open = 0;
            boolean unitIsDue = true;
            for (int i = 0; i <= Scanner.MOST_TOKENS; i++) {
                int kind = kindNow();
                if (!goesOnSum(kind, unitIsDue)) {
                    if (unitIsDue || open > 0) {
                        return fail(SYNTAX);
                    }
                    putPending(1);
                    return true;
                }
                if (kind == '(' && open >= MOST_OPEN) {
                    return fail(ROOM);
                }
                if (!take(kind)) {
                    return false;
                }
                if (kind == '(') {
                    open++;
                    push(kind);
                } else if (kind == ')') {
                    open--;
                    putPending(1);
                    pendings = Math.max(0, pendings - 1);
                } else if (rankOf(kind) > 0) {
                    putPending(rankOf(kind));
                    push(kind);
                    unitIsDue = true;
                } else {
                    putUnit(kind);
                    unitIsDue = false;
                }
            }
            return fail(ROOM);
        }

        private boolean goesOnSum(int kind, boolean unitIsDue) {
            if (unitIsDue) {
                return kind == '(' || kind == Scanner.INT || isVar(kind);
            }
            return rankOf(kind) > 0 || (kind == ')' && open > 0);
        }

        private void putUnit(int kind) {
            if (kind == Scanner.INT) {
                draft.putCode(Laws.NUMBER, (int) taken);
            } else {
                draft.putCode(Laws.VAR, kind - Scanner.FIRST_VAR);
            }
        }

        private void push(int operator) {
            if (pendings < MOST_PENDING) {
                pending[pendings] = operator;
                pendings++;
            }
        }

        /** A bracket has rank 0, so that what waits outside of it goes on waiting. */
        private void putPending(int leastRank) {
            while (pendings > 0 && rankOf(pending[pendings - 1]) >= leastRank) {
                pendings--;
                draft.putCode(pending[pendings], 0);
            }
        }

        private static int rankOf(int kind) {
            if (kind == '+' || kind == '-') {
                return 1;
            }
            return kind == '*' || kind == '/' ? 2 : 0;
        }

        private static boolean isVar(int kind) {
            return Scanner.FIRST_VAR <= kind && kind <= Scanner.LAST_VAR;
        }

        private int familyNamed(long name) {
            for (int family = 0; family < draft.families; family++) {
                if (names[family] == name) {
                    return family;
                }
            }
            return NONE;
        }

        private int kindNow() {
            return at <= Scanner.MOST_TOKENS ? scanner.kinds[at] : Scanner.END;
        }

        private boolean take(int kind) {
            if (kindNow() != kind) {
                return fail(SYNTAX);
            }
            if (at >= Scanner.MOST_TOKENS) {
                return fail(ROOM);
            }
            taken = scanner.values[at];
            takenPlace = scanner.places[at];
            at++;
            return true;
        }

        private boolean takeNumber(int most) {
            if (!take(Scanner.INT)) {
                return false;
            }
            if (taken > most) {
                failLater(WRONG);
            }
            return true;
        }

        private boolean fail(int sort) {
            fault = sort;
            faultPlace = at <= Scanner.MOST_TOKENS ? scanner.places[at] : NONE;
            return false;
        }

        /** Counts only if the whole text has neither SYNTAX nor ROOM, so reading goes on. */
        private void failLater(int sort) {
            if (laterFault == 0) {
                laterFault = sort;
                laterPlace = takenPlace;
            }
        }
    }

    /** All that goes on from week to week, in one row, so that undoing and holding are one copy. */
    private static final class State {
        static final int MATTERS = 0;
        static final int OWNERS = MATTERS + MOST_MINUTES;
        static final int GAINED = OWNERS + PARTS;
        static final int PAID = GAINED + MOST_FAMILIES;
        static final int DUST = PAID + MOST_FAMILIES;
        static final int SYRUP = DUST + 1;
        static final int WEEK = SYRUP + 1;
        static final int COUGHED = WEEK + 1;
        static final int HEARD = COUGHED + 1;
        static final int SIZE = HEARD + 1;

        final int[] cells = new int[SIZE];

        void begin(Text text) {
            Arrays.fill(cells, 0);
            System.arraycopy(text.matters, 0, cells, MATTERS, MOST_MINUTES);
            System.arraycopy(text.owners, 0, cells, OWNERS, PARTS);
            cells[DUST] = text.dust;
            cells[SYRUP] = text.syrup;
            cells[HEARD] = NOTHING;
        }

        void copyFrom(State other) {
            System.arraycopy(other.cells, 0, cells, 0, SIZE);
        }

        int matterOf(int minute) {
            return cells[MATTERS + minute];
        }

        void exchange(int minute, int other) {
            int matter = cells[MATTERS + minute];
            cells[MATTERS + minute] = cells[MATTERS + other];
            cells[MATTERS + other] = matter;
        }

        int ownerOf(int part) {
            return cells[OWNERS + part];
        }

        void setOwner(int part, int owner) {
            cells[OWNERS + part] = owner;
        }

        int partsOf(int owner) {
            int bits = 0;
            for (int part = 0; part < PARTS; part++) {
                if (ownerOf(part) == owner) {
                    bits |= 1 << part;
                }
            }
            return bits;
        }

        int gainedBy(int family) {
            return cells[GAINED + family];
        }

        int paidBy(int family) {
            return cells[PAID + family];
        }

        int profitOf(int family) {
            return gainedBy(family) - paidBy(family);
        }

        int gainedByAll() {
            return sumFrom(GAINED);
        }

        int paidByAll() {
            return sumFrom(PAID);
        }

        private int sumFrom(int first) {
            int sum = 0;
            for (int family = 0; family < MOST_FAMILIES; family++) {
                sum += cells[first + family];
            }
            return sum;
        }
    }

    /** The states before the last things done, and those held in slots. */
    private static final class Past {
        private static final int MOST_THINGS = 40;
        private static final int SLOTS = 3;

        private final int[] before = new int[MOST_THINGS * State.SIZE];
        private final int[] slots = new int[SLOTS * State.SIZE];
        private final boolean[] held = new boolean[SLOTS];
        private int next;
        int things;

        void keep(State state) {
            System.arraycopy(state.cells, 0, before, next * State.SIZE, State.SIZE);
            next = next + 1 < MOST_THINGS ? next + 1 : 0;
            things = Math.min(things + 1, MOST_THINGS);
        }

        boolean takeBack(State state) {
            if (things == 0) {
                return false;
            }
            things--;
            next = next > 0 ? next - 1 : MOST_THINGS - 1;
            System.arraycopy(before, next * State.SIZE, state.cells, 0, State.SIZE);
            return true;
        }

        void clearThings() {
            things = 0;
        }

        void clearSlots() {
            for (int slot = 0; slot < SLOTS; slot++) {
                held[slot] = false;
            }
        }

        boolean putInSlot(int slot, State state) {
            if (!within(slot, 0, SLOTS - 1)) {
                return false;
            }
            System.arraycopy(state.cells, 0, slots, slot * State.SIZE, State.SIZE);
            held[slot] = true;
            return true;
        }

        boolean getFromSlot(int slot, State state) {
            if (!within(slot, 0, SLOTS - 1) || !held[slot]) {
                return false;
            }
            System.arraycopy(slots, slot * State.SIZE, state.cells, 0, State.SIZE);
            return true;
        }

        int slotsHeld() {
            int sum = 0;
            for (int slot = 0; slot < SLOTS; slot++) {
                sum += held[slot] ? 1 : 0;
            }
            return sum;
        }
    }

    /** The four LAWS of a text, as they come out in a state. */
    private static final class Laws {
        static final int COUGHS = 0;
        static final int WORTH = 1;
        static final int RENTS = 2;
        static final int CURES = 3;

        // The other operations are the signs + - * / themselves, which are all greater.
        static final int NUMBER = 0;
        static final int VAR = 1;
        static final int TEST = 2;
        static final int ANSWER = 3;

        // The vars are numbered as they stand among the scanner's words.
        static final int NOW = 0;
        static final int MATTER = 1;
        static final int DUSTY = 2;
        static final int SWEET = 3;
        static final int ZEAL = 4;
        static final int LOVE = 5;
        static final int WEEK = 6;
        static final int PART = 7;
        static final int WHICH = 8;
        static final int VARS = 9;

        // At each level of brackets a sum and a product may wait, then comes a unit; and all of this is
        // on top of the first side of an if while its second side is looked at.
        private static final int MOST_STACK = 2 * (Reader.MOST_OPEN + 1) + 1 + 1;

        private final Text text;
        private final int[] vars = new int[VARS];
        private final int[] stack = new int[MOST_STACK];

        Laws(Text text) {
            this.text = text;
        }

        int quartersOf(State state, int minute) {
            setVars(state, minute, NONE, 0);
            return Math.max(0, Math.min(4, resultOf(COUGHS)));
        }

        int worthTo(State state, int family, int minute, int part) {
            setVars(state, minute, family, part);
            return Math.max(0, Math.min(9, resultOf(WORTH)));
        }

        int rentOf(State state, int family) {
            setVars(state, NONE, family, Integer.bitCount(state.partsOf(family)));
            return Math.max(0, Math.min(99, resultOf(RENTS)));
        }

        int cureFor(State state, int family) {
            setVars(state, NONE, family, Integer.bitCount(state.partsOf(family)));
            return Math.max(0, Math.min(99, resultOf(CURES)));
        }

        private void setVars(State state, int minute, int family, int part) {
            boolean ofMinute = 0 <= minute && minute < MOST_MINUTES;
            boolean ofFamily = 0 <= family && family < MOST_FAMILIES;
            vars[NOW] = ofMinute ? minute : 0;
            vars[MATTER] = ofMinute ? state.cells[State.MATTERS + minute] : 0;
            vars[DUSTY] = state.cells[State.DUST];
            vars[SWEET] = state.cells[State.SYRUP];
            vars[ZEAL] = ofFamily ? text.zeal[family] : 0;
            vars[LOVE] = ofFamily ? text.love[family] : 0;
            vars[WEEK] = state.cells[State.WEEK];
            vars[PART] = part;
            vars[WHICH] = ofFamily ? family : 0;
        }

        /** Tests jump only ahead, so that no law has more steps than there are codes. */
        private int resultOf(int law) {
            int at = text.starts[law];
            int top = 0;
            for (int steps = 0; steps < Text.MOST_CODES && at < text.codes; steps++) {
                int operation = text.operations[at];
                int number = text.numbers[at];
                at++;
                boolean isUnit = operation == NUMBER || operation == VAR;
                if (isUnit && top >= MOST_STACK) {
                    return 0;
                }
                if (isUnit) {
                    stack[top] = operation == VAR && 0 <= number && number < VARS ? vars[number] : number;
                    top++;
                } else if (operation == ANSWER) {
                    return top > 0 ? stack[top - 1] : 0;
                } else if (top < 2 || (operation == '/' && stack[top - 1] == 0)) {
                    return 0;
                } else if (operation == TEST) {
                    top -= 2;
                    at = stack[top] < stack[top + 1] || number < at ? at : number;
                } else {
                    top--;
                    int right = stack[top];
                    switch (operation) {
                        case '+':
                            stack[top - 1] += right;
                            break;
                        case '-':
                            stack[top - 1] -= right;
                            break;
                        case '*':
                            stack[top - 1] *= right;
                            break;
                        default:
                            stack[top - 1] = right == 0 ? 0 : stack[top - 1] / right;
                    }
                }
            }
            return 0;
        }
    }

    /** In how many CASES what happens, once a state has been weighed. */
    private static final class Chances {
        private static final int WIDTH = MOST_MINUTES + 1;

        private final Text text;
        private final Laws laws;
        private final int[] quarters = new int[MOST_MINUTES];
        private final int[] falls = new int[MOST_MINUTES * PARTS];
        private final int[] ways = new int[PARTS * WIDTH];
        private final int[] nextWays = new int[PARTS * WIDTH];
        private int cases;
        int always;
        int maybe;

        Chances(Text text, Laws laws) {
            this.text = text;
            this.laws = laws;
        }

        void weigh(State state) {
            cases = 1 << 2 * text.minutes;
            always = 0;
            maybe = 0;
            for (int minute = 0; minute < text.minutes; minute++) {
                quarters[minute] = laws.quartersOf(state, minute);
                if (quarters[minute] == 4) {
                    always |= 1 << minute;
                } else if (quarters[minute] > 0) {
                    maybe |= 1 << minute;
                }
            }
            weighFalls();
        }

        /** All that is left at a MINUTE divides by four once for each MINUTE from it on. */
        private void weighFalls() {
            Arrays.fill(falls, 0);
            falls[0] = cases;
            for (int minute = 0; minute + 1 < text.minutes; minute++) {
                int here = minute * PARTS;
                int there = here + PARTS;
                for (int part = 0; part < PARTS; part++) {
                    int quarter = falls[here + part] / 4;
                    falls[there + part] += quarter * (4 - quarters[minute]);
                    falls[there + partBehind(part)] += quarter * quarters[minute];
                }
            }
        }

        static int partBehind(int part) {
            return part < LAST_PART ? part + 1 : LAST_PART;
        }

        /** The PART of a MINUTE if he coughs behind the MINUTES of a set. */
        static int partIn(int set, int minute) {
            return Math.min(LAST_PART, Integer.bitCount(set & (1 << minute) - 1));
        }

        int casesIn(int minute, int part) {
            return falls[minute * PARTS + part];
        }

        int casesOfParts(int parts) {
            if (text.minutes == 0) {
                return parts == 0 ? cases : 0;
            }
            return parts == 0 ? 0 : casesIn(text.minutes - 1, parts - 1);
        }

        /** VALUES, added, of all PARTS whose bits are given. */
        int valueOf(State state, int family, int parts) {
            int sum = 0;
            for (int part = 0; part < PARTS; part++) {
                for (int minute = 0; minute < text.minutes && (parts >> part & 1) != 0; minute++) {
                    int much = falls[minute * PARTS + part];
                    if (much > 0) {
                        sum += much * laws.worthTo(state, family, minute, part);
                    }
                }
            }
            return sum;
        }

        int haveOf(State state, int family) {
            return valueOf(state, family, state.partsOf(family));
        }

        /** Behind the last PART coughs part nothing any more; elsewhere every cough does. */
        int casesTogether(int first, int last) {
            int inLast = casesIn(first, LAST_PART);
            int rest = cases - inLast;
            for (int minute = first; minute < last; minute++) {
                rest = rest / 4 * (4 - quarters[minute]);
            }
            return inLast + rest;
        }

        /** Carries on, from MINUTE to MINUTE, the ways to be in a PART with so many in the one asked for. */
        int casesHolding(int asked, int much) {
            Arrays.fill(ways, 0);
            ways[0] = cases;
            for (int minute = 0; minute < text.minutes; minute++) {
                Arrays.fill(nextWays, 0);
                for (int part = 0; part < PARTS; part++) {
                    carryWays(minute, part, part == asked ? 1 : 0);
                }
                System.arraycopy(nextWays, 0, ways, 0, ways.length);
            }
            int sum = 0;
            for (int part = 0; part < PARTS; part++) {
                sum += ways[part * WIDTH + much];
            }
            return sum;
        }

        private void carryWays(int minute, int part, int more) {
            int here = part * WIDTH;
            int behind = partBehind(part) * WIDTH;
            for (int much = 0; much + more < WIDTH; much++) {
                int quarter = ways[here + much] / 4;
                nextWays[here + much + more] += quarter * (4 - quarters[minute]);
                nextWays[behind + much + more] += quarter * quarters[minute];
            }
        }
    }

    /** Preaches a state on, week by week, as a seed has it. */
    private static final class Preacher {
        private final Text text;
        private final Laws laws;

        Preacher(Text text, Laws laws) {
            this.text = text;
            this.laws = laws;
        }

        boolean coughsBehind(State state, int minute, int seed) {
            int which = 16 * state.cells[State.WEEK] + minute;
            return lotOfFour(seed, which) < laws.quartersOf(state, minute);
        }

        void preachWeeks(State state, int n, int seed) {
            for (int i = 0; i < n; i++) {
                preachWeek(state, seed);
            }
        }

        private void preachWeek(State state, int seed) {
            int set = 0;
            int part = 0;
            int parts = 0;
            for (int minute = 0; minute < text.minutes; minute++) {
                parts = part + 1;
                payWorth(state, minute, part);
                if (coughsBehind(state, minute, seed)) {
                    set |= 1 << minute;
                    part = Chances.partBehind(part);
                }
            }
            for (int family = 0; family < text.families; family++) {
                state.cells[State.PAID + family] += laws.rentOf(state, family);
            }
            state.cells[State.COUGHED] = set;
            state.cells[State.HEARD] = parts;
            state.cells[State.WEEK]++;
        }

        private void payWorth(State state, int minute, int part) {
            int owner = state.ownerOf(part);
            if (owner >= 0) {
                state.cells[State.GAINED + owner] += laws.worthTo(state, owner, minute, part);
            }
        }

        private static int lotOfFour(int seed, int which) {
            return (stir(stir(seed, 167), which) >>> 1) % 4;
        }

        private static int stir(int hash, int it) {
            int mixed = (hash ^ it) * 1103515245 + 12345;
            return mixed ^ mixed >>> 15;
        }
    }

    /** Which PARTS have a MINUTE on a matter, in each CASE. */
    private static final class Coverage {
        private final Text text;
        private final Chances chances;
        private final boolean[] seen = new boolean[1 << PARTS];

        Coverage(Text text, Chances chances) {
            this.text = text;
            this.chances = chances;
        }

        void look(State state, int matter) {
            for (int parts = 0; parts < seen.length; parts++) {
                seen[parts] = false;
            }
            chances.weigh(state);
            int maybe = chances.maybe;
            int some = 0;
            for (int i = 0; i < 1 << Integer.bitCount(maybe); i++) {
                seen[partsOn(state, matter, chances.always | some)] = true;
                some = some - maybe & maybe;
            }
        }

        private int partsOn(State state, int matter, int set) {
            int bits = 0;
            for (int minute = 0; minute < text.minutes; minute++) {
                if (state.matterOf(minute) == matter) {
                    bits |= 1 << Chances.partIn(set, minute);
                }
            }
            return bits;
        }

        boolean isMetBy(int parts) {
            for (int there = 0; there < seen.length; there++) {
                if (seen[there] && (there & parts) == 0) {
                    return false;
                }
            }
            return true;
        }

        int fewestParts() {
            int best = ALL_PARTS;
            for (int parts = 0; parts < seen.length; parts++) {
                if (Integer.bitCount(parts) < Integer.bitCount(best) && isMetBy(parts)) {
                    best = parts;
                }
            }
            return best;
        }
    }

    /** What was TOLD of a sermon, and the coughs that it leaves possible. */
    private static final class Witness {
        private static final int MOST_TOLD = 20;

        private final Text text;
        private final Chances chances;
        private final int[] minutes = new int[MOST_TOLD];
        private final int[] parts = new int[MOST_TOLD];
        private final boolean[] so = new boolean[MOST_TOLD];
        private final int[] behind = new int[MOST_MINUTES];
        int size;
        int left;
        int least;
        int inAll;
        int inNone;

        Witness(Text text, Chances chances) {
            this.text = text;
            this.chances = chances;
        }

        int add(int minute, int part, boolean isSo) {
            if (size >= MOST_TOLD) {
                return NONE;
            }
            minutes[size] = minute;
            parts[size] = part;
            so[size] = isSo;
            size++;
            return size - 1;
        }

        void sift(State state, int known) {
            chances.weigh(state);
            Arrays.fill(behind, 0);
            left = 0;
            inAll = (1 << text.minutes) - 1;
            inNone = inAll;
            int maybe = chances.maybe;
            int some = 0;
            for (int i = 0; i < 1 << Integer.bitCount(maybe); i++) {
                int set = chances.always | some;
                if (agrees(set, known)) {
                    addSet(set);
                }
                some = some - maybe & maybe;
            }
        }

        private boolean agrees(int set, int known) {
            for (int i = 0; i < known && i < size; i++) {
                if (Chances.partIn(set, minutes[i]) == parts[i] != so[i]) {
                    return false;
                }
            }
            return true;
        }

        private void addSet(int set) {
            if (left == 0) {
                least = set;
            }
            left++;
            inAll &= set;
            inNone &= ~set;
            for (int minute = 0; minute < text.minutes; minute++) {
                behind[minute] += set >> minute & 1;
            }
        }

        int bestQuestion() {
            int best = NOTHING;
            int fewest = left + 1;
            for (int minute = 0; minute < text.minutes; minute++) {
                int worst = Math.max(behind[minute], left - behind[minute]);
                if (worst < fewest) {
                    best = minute;
                    fewest = worst;
                }
            }
            return best;
        }
    }
}
