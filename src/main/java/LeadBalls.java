/** Two lead balls, a shed, houses, a printed sum and trials: the promises of DOC.md, one public method each. */
public final class LeadBalls {

    public static final int NONE = -1;
    public static final long GAP = -1000000000000L;

    private static final int TEXT_MOST = 800;
    private static final int CAUSES_MOST = 8;
    private static final int TRIALS_MOST = 8;
    private static final int HOUSES_MOST = 12;
    private static final int LINES_MOST = 12;
    private static final int UNITS_MOST = 60;
    private static final int NEST_MOST = 6;
    private static final int READINGS_MOST = 40;
    private static final int MINUTE_MOST = 999;
    private static final int POINT_MOST = 9999;
    private static final int TURNING_MOST = 19;
    private static final int TIME_MOST = 100000;
    private static final int ORDER_MOST = 12;

    // FAULTS by their numbers.
    private static final int NO_TOKEN = 1;
    private static final int CANT_STAND = 2;
    private static final int TOLD_ALREADY = 3;
    private static final int CANT_BE = 4;
    private static final int NO_SUCH = 5;

    // Kinds of TOKENS. A sign's kind is its own byte; a word that stands for itself has FIRST_WORD and its index in WORDS.
    private static final int END = 0;
    private static final int BAD = 1;
    private static final int NAME = 2;
    private static final int NUMBER = 3;
    private static final int FIRST_WORD = 256;
    private static final String WORDS =
            "ball near far rod wire damp reads zero creep warm iron cause trial shows house says span cellar is prints ";
    private static final int WORD_COUNT = 20;
    private static final int WORD_LETTERS = 8;
    private static final int NUMBER_DIGITS = 4;

    private static final int BALL = 256;
    private static final int NEAR = 257;
    private static final int FAR = 258;
    private static final int ROD = 259;
    private static final int WIRE = 260;
    private static final int DAMP = 261;
    private static final int READS = 262;
    private static final int ZERO = 263;
    private static final int CREEP = 264;
    private static final int WARM = 265;
    private static final int IRON = 266;
    private static final int CAUSE = 267;
    private static final int TRIAL = 268;
    private static final int SHOWS = 269;
    private static final int HOUSE = 270;
    private static final int SAYS = 271;
    private static final int SPAN = 272;
    private static final int CELLAR = 273;
    private static final int IS = 274;
    private static final int PRINTS = 275;

    // What THE SHED tells in numbers, ball to iron in the order of WORDS.
    private static final int SETTINGS = 11;
    private static final int[] UNTOLD_SETTING = {50, 5, 50, 0, 50, 90, 1, 0, 0, 0, 0};
    private static final int[] LEAST_SETTING = {1, 1, 2, 0, 1, 0, 1, -999, -999, -999, -999};
    private static final int[] MOST_SETTING = {99, 20, 99, 99, 99, 100, 99, 999, 999, 999, 999};

    private final Tape tape;
    private final Reader reader;
    // What is read goes into the spare one, so that a FAULT leaves the other as it is.
    private Shed theShed;
    private Shed spareShed;
    private Houses theHouses;
    private Houses spareHouses;
    private Sum theSum;
    private Sum spareSum;
    private final Readings readings;
    private final Fit fitting;
    private final int[] orders;

    public LeadBalls() {
        tape = new Tape();
        reader = new Reader(tape);
        theShed = new Shed();
        spareShed = new Shed();
        theHouses = new Houses();
        spareHouses = new Houses();
        theSum = new Sum();
        spareSum = new Sum();
        readings = new Readings();
        fitting = new Fit();
        orders = new int[ORDER_MOST + 1];
    }

    public int feed(int a, int b, int c, int d, int e) {
        if (tape.length + 20 > TEXT_MOST) {
            return NONE;
        }
        tape.append(a);
        tape.append(b);
        tape.append(c);
        tape.append(d);
        tape.append(e);
        return tape.length;
    }

    public int end(int n) {
        if (n < 0 || n > tape.length) {
            return NONE;
        }
        tape.length = n;
        return n;
    }

    public int shed() {
        reader.open(false);
        boolean good = spareShed.read(reader);
        tape.length = 0;
        if (!good) {
            return NONE;
        }
        Shed old = theShed;
        theShed = spareShed;
        spareShed = old;
        return theShed.lines;
    }

    public int houses() {
        reader.open(false);
        boolean good = spareHouses.read(reader);
        tape.length = 0;
        if (!good) {
            return NONE;
        }
        Houses old = theHouses;
        theHouses = spareHouses;
        spareHouses = old;
        return theHouses.count;
    }

    public int sum() {
        reader.open(true);
        boolean good = spareSum.read(reader);
        tape.length = 0;
        if (!good) {
            return NONE;
        }
        Sum old = theSum;
        theSum = spareSum;
        spareSum = old;
        return theSum.lines;
    }

    public int fault(int what) {
        switch (what) {
            case 0:
                return reader.fault;
            case 1:
                return reader.faultPlace;
            default:
                return NONE;
        }
    }

    public long rest(int side, int minute, int part) {
        if (!within(side, -1, 1) || !within(minute, 0, MINUTE_MOST) || !within(part, 0, 1)) {
            return GAP;
        }
        return lowest(theShed.restUpper(side, minute), theShed.lower(), part);
    }

    public long turning(int side, int minute, int x, int i) {
        if (!within(side, -1, 1) || !within(minute, 0, MINUTE_MOST)
                || !within(x, -POINT_MOST, POINT_MOST) || !within(i, 0, TURNING_MOST)) {
            return GAP;
        }
        long about = floorOf(theShed.restUpper(side, minute) * 1000, theShed.lower());
        long damp = theShed.setting(DAMP);
        long point = x * 1000L;
        for (int n = 0; n < i; n++) {
            point = floorOf(100 * about - (point - about) * damp, 100);
        }
        long reads = theShed.setting(READS);
        return floorOf(point, reads * 1000) * reads;
    }

    public long had(int a, int b, int c, int what, int part) {
        if (!within(a, -POINT_MOST, POINT_MOST) || !within(b, -POINT_MOST, POINT_MOST)
                || !within(c, -POINT_MOST, POINT_MOST) || !within(what, 0, 1) || !within(part, 0, 1)) {
            return GAP;
        }
        if (what == 0) {
            return lowest((long) a * c - (long) b * b, (long) a + c - 2L * b, part);
        }
        return lowest((long) b - c, (long) b - a, part);
    }

    public int reading(int minute, int side, int number) {
        return readings.tell(minute, side, number);
    }

    public boolean untell(int reading) {
        return readings.takeBack(reading);
    }

    public int later(int by) {
        return readings.goOn(by);
    }

    public long fit(int mode, int what, int part, int k) {
        if (!within(mode, 0, 2) || !within(what, 0, 4) || !within(part, 0, 1)) {
            return GAP;
        }
        int unknowns = mode + 2;
        if (!fitting.solve(readings, unknowns, k)) {
            return GAP;
        }
        if (what == 4) {
            return lowest(fitting.mostOff(readings, k), fitting.lower, part);
        }
        return lowest(what < unknowns ? fitting.upper[what] : 0, fitting.lower, part);
    }

    public long world(int k) {
        if (!fitting.solve(readings, 3, k)) {
            return NONE;
        }
        long g = floorOf(fitting.upper[1] * 1000, fitting.lower);
        if (g <= 0) {
            return NONE;
        }
        // Rounding down by one divisor and then by the other is the same as by both, and stays within a long.
        return floorOf(floorOf(theShed.pullUpper() * 100000, theShed.lower()), g);
    }

    public int order(int n) {
        if (!within(n, 2, ORDER_MOST) || (n & 1) != 0) {
            return NONE;
        }
        if (orders[n] == 0) {
            orders[n] = bestOrder(n);
        }
        return orders[n];
    }

    public int agree(int what) {
        if (theHouses.count == 0) {
            return NONE;
        }
        switch (what) {
            case 0:
                return theHouses.more();
            case 1:
                return theHouses.out();
            case 2:
                return theHouses.count - Integer.bitCount(theHouses.out());
            case 3:
                return theHouses.apart();
            default:
                return NONE;
        }
    }

    public long line(int line, int what) {
        if (!within(line, 0, theSum.lines - 1)) {
            return GAP;
        }
        switch (what) {
            case 0:
                return theSum.worked[line];
            case 1:
                return theSum.slip[line];
            case 2:
                return theSum.moved(line);
            default:
                return GAP;
        }
    }

    public long right() {
        return theSum.lines == 0 ? GAP : theSum.lastWith(0);
    }

    public boolean result(int trial, boolean shows) {
        return theShed.causes.tell(trial, shows);
    }

    public int maybe() {
        return theShed.causes.possible();
    }

    public int next() {
        return theShed.causes.bestTrial();
    }

    public int fewest() {
        return theShed.causes.fewestTrials();
    }

    public int about(int what) {
        switch (what) {
            case 0:
                return theShed.causes.count;
            case 1:
                return theShed.causes.trials;
            case 2:
                return theHouses.count;
            case 3:
                return theSum.lines;
            case 4:
                return readings.count;
            case 5:
                return readings.time;
            case 6:
                return tape.length;
            case 7:
                return theSum.units;
            default:
                return NONE;
        }
    }

    private static boolean within(int number, int least, int most) {
        return number >= least && number <= most;
    }

    private static long floorOf(long upper, long lower) {
        return lower == 0 ? 0 : Math.floorDiv(upper, lower);
    }

    /** The upper part (0) or the lower part (1) of a fraction in lowest terms; GAP if its lower part is 0. */
    private static long lowest(long upper, long lower, int part) {
        if (lower == 0) {
            return GAP;
        }
        long shared = commonDivisor(Math.abs(upper), Math.abs(lower));
        if (shared == 0) {
            return GAP;
        }
        if (part == 1) {
            return Math.abs(lower) / shared;
        }
        return (lower < 0 ? -upper : upper) / shared;
    }

    private static long commonDivisor(long a, long b) {
        // Euclid's steps on two longs are fewer than a hundred.
        for (int n = 0; n < 200 && b != 0; n++) {
            long left = a % b;
            a = b;
            b = left;
        }
        return a;
    }

    private static int indexOf(long[] names, int count, long name) {
        for (int i = 0; i < count && i < names.length; i++) {
            if (names[i] == name) {
                return i;
            }
        }
        return NONE;
    }

    private static int bestOrder(int n) {
        int best = 0;
        long leastWeight = 0;
        for (int bits = 1; bits < 1 << n; bits += 2) {
            if (Integer.bitCount(bits) * 2 == n) {
                long weight = orderWeight(bits, n);
                if (best == 0 || weight < leastWeight) {
                    best = bits;
                    leastWeight = weight;
                }
            }
        }
        return best;
    }

    private static long orderWeight(int bits, int n) {
        int first = 0;
        int second = 0;
        int third = 0;
        for (int j = 0; j < n; j++) {
            int side = (bits >> j & 1) == 1 ? 1 : -1;
            first += side * j;
            second += side * j * j;
            third += side * j * j * j;
        }
        // No sum of twelve places comes to 10,000, so one number sets them in the order in which they count.
        return (Math.abs(first) * 10000L + Math.abs(second)) * 10000L + Math.abs(third);
    }

    /** The bytes fed since the last text was read. */
    private static final class Tape {
        final byte[] bytes = new byte[TEXT_MOST];
        int length = 0;

        void append(int four) {
            for (int shift = 24; shift >= 0 && length < TEXT_MOST; shift -= 8) {
                bytes[length] = (byte) (four >> shift);
                length++;
            }
        }
    }

    /** Takes TOKENS from the TAPE, one ahead, and keeps the first FAULT. */
    private static final class Reader {
        // A word is kept as a number of its letters, 1 to 26 each: eight fit into one long, and no text need be made.
        private static final int LETTERS = 27;
        private final Tape tape;
        private final long[] words;
        private boolean inSum;
        private int at;
        int kind;
        private int place;
        int number;
        long name;
        // What was taken last: the reader itself has gone on to the next TOKEN then.
        int takenNumber;
        long takenName;
        int fault;
        int faultPlace;

        Reader(Tape tape) {
            this.tape = tape;
            words = new long[WORD_COUNT];
            fault = 0;
            faultPlace = NONE;
            long code = 0;
            int count = 0;
            for (int i = 0; i < WORDS.length() && count < WORD_COUNT; i++) {
                if (WORDS.charAt(i) == ' ') {
                    words[count] = code;
                    count++;
                    code = 0;
                } else {
                    code = code * LETTERS + (WORDS.charAt(i) - 'a' + 1);
                }
            }
        }

        void open(boolean ofSum) {
            inSum = ofSum;
            at = 0;
            fault = 0;
            faultPlace = NONE;
            advance();
        }

        void advance() {
            while (at < tape.length && (tape.bytes[at] == ' ' || tape.bytes[at] == '\n')) {
                at++;
            }
            place = at;
            if (at >= tape.length) {
                kind = END;
                return;
            }
            int c = tape.bytes[at];
            if (c >= 'a' && c <= 'z') {
                readWord();
            } else if (c >= '0' && c <= '9') {
                readNumber();
            } else {
                kind = isSign(c) ? c : BAD;
                at++;
            }
        }

        private boolean isSign(int c) {
            switch (c) {
                case ';':
                case '-':
                    return true;
                case '(':
                case ')':
                case '+':
                case '*':
                case '/':
                    return inSum;
                default:
                    return false;
            }
        }

        private void readWord() {
            long code = 0;
            while (at < tape.length && tape.bytes[at] >= 'a' && tape.bytes[at] <= 'z') {
                code = code * LETTERS + (tape.bytes[at] - 'a' + 1);
                at++;
            }
            if (at - place > WORD_LETTERS) {
                kind = BAD;
                return;
            }
            name = code;
            kind = NAME;
            for (int i = 0; i < WORD_COUNT; i++) {
                if (words[i] == code) {
                    kind = FIRST_WORD + i;
                }
            }
        }

        private void readNumber() {
            int value = 0;
            while (at < tape.length && tape.bytes[at] >= '0' && tape.bytes[at] <= '9') {
                value = value * 10 + (tape.bytes[at] - '0');
                at++;
            }
            boolean letterBehind = at < tape.length && tape.bytes[at] >= 'a' && tape.bytes[at] <= 'z';
            number = value;
            kind = letterBehind || at - place > NUMBER_DIGITS ? BAD : NUMBER;
        }

        /** A FAULT at the TOKEN that is next; false, so that readers can hand it on. */
        boolean refuse(int code) {
            return refuseAt(code, place);
        }

        private boolean refuseAt(int code, int where) {
            fault = kind == BAD ? NO_TOKEN : code;
            faultPlace = where;
            return false;
        }

        boolean take(int wanted) {
            if (kind != wanted) {
                return refuse(CANT_STAND);
            }
            advance();
            return true;
        }

        boolean takeName() {
            if (kind != NAME) {
                return refuse(CANT_STAND);
            }
            takenName = name;
            advance();
            return true;
        }

        /** A NAME that none of the first count names is; it comes behind them. */
        boolean takeNewName(long[] names, int count) {
            if (kind != NAME || count < 0 || count >= names.length) {
                return refuse(CANT_STAND);
            }
            if (indexOf(names, count, name) != NONE) {
                return refuse(TOLD_ALREADY);
            }
            names[count] = name;
            advance();
            return true;
        }

        boolean takeNumber(int least, int most) {
            if (kind != NUMBER) {
                return refuse(CANT_STAND);
            }
            if (!within(number, least, most)) {
                return refuse(CANT_BE);
            }
            takenNumber = number;
            advance();
            return true;
        }

        boolean takeSigned(int least, int most) {
            int where = place;
            boolean below = kind == '-';
            if (below) {
                advance();
            }
            if (kind != NUMBER) {
                return refuse(CANT_STAND);
            }
            int value = below ? -number : number;
            if (!within(value, least, most)) {
                return refuseAt(CANT_BE, where);
            }
            takenNumber = value;
            advance();
            return true;
        }
    }

    /** THE SHED: its numbers, and its CAUSES with their TRIALS. */
    private static final class Shed {
        int lines = 0;
        final Causes causes = new Causes();
        private final int[] settings = UNTOLD_SETTING.clone();
        private int told = 0;

        boolean read(Reader reader) {
            lines = 0;
            told = 0;
            System.arraycopy(UNTOLD_SETTING, 0, settings, 0, SETTINGS);
            causes.clear();
            for (int n = 0; n <= TEXT_MOST; n++) {
                if (reader.kind == END) {
                    causes.fillFewest();
                    return true;
                }
                if (!readLine(reader)) {
                    return false;
                }
                lines++;
            }
            return false;
        }

        private boolean readLine(Reader reader) {
            boolean good;
            switch (reader.kind) {
                case BALL:
                    good = readSetting(reader, BALL) && readNearAndFar(reader);
                    break;
                case ROD:
                case WIRE:
                case DAMP:
                case READS:
                case ZERO:
                case CREEP:
                case WARM:
                case IRON:
                    good = readSetting(reader, reader.kind);
                    break;
                case CAUSE:
                    good = causes.readCause(reader);
                    break;
                case TRIAL:
                    good = causes.readTrial(reader);
                    break;
                default:
                    return reader.refuse(CANT_STAND);
            }
            return good && reader.take(';');
        }

        private boolean readNearAndFar(Reader reader) {
            int near = NEAR - FIRST_WORD;
            int far = FAR - FIRST_WORD;
            if (!reader.take(NEAR) || !reader.takeNumber(LEAST_SETTING[near], MOST_SETTING[near])) {
                return false;
            }
            settings[near] = reader.takenNumber;
            if (!reader.take(FAR) || !reader.takeNumber(settings[near] + 1, MOST_SETTING[far])) {
                return false;
            }
            settings[far] = reader.takenNumber;
            return true;
        }

        private boolean readSetting(Reader reader, int word) {
            int which = word - FIRST_WORD;
            if (which < 0 || which >= SETTINGS || (told >> which & 1) == 1) {
                return reader.refuse(CANT_STAND);
            }
            told |= 1 << which;
            reader.advance();
            int least = LEAST_SETTING[which];
            int most = MOST_SETTING[which];
            boolean good = least < 0 ? reader.takeSigned(least, most) : reader.takeNumber(least, most);
            if (good) {
                settings[which] = reader.takenNumber;
            }
            return good;
        }

        long setting(int word) {
            int which = word - FIRST_WORD;
            return which < 0 || which >= SETTINGS ? 0 : settings[which];
        }

        long pullUpper() {
            long near = setting(NEAR);
            long far = setting(FAR);
            return setting(WIRE) * setting(BALL) * (1000 + setting(ROD)) * (far * far - near * near);
        }

        /** The lower part that PULL and REST share, before they are in lowest terms. */
        long lower() {
            long near = setting(NEAR);
            long far = setting(FAR);
            return 1000 * near * near * far * far;
        }

        long restUpper(int side, int minute) {
            long whole = setting(ZERO) + setting(IRON) * side * side + side * setting(WARM);
            // The shared lower part has the factor 1000, so a tenth of it is whole.
            long tenth = lower() / 10;
            return whole * lower() + setting(CREEP) * minute * tenth + side * pullUpper();
        }
    }

    /** The CAUSES of a SHED, its TRIALS, and the RESULTS told since it was read. */
    private static final class Causes {
        int count = 0;
        int trials = 0;
        private final long[] causeNames = new long[CAUSES_MOST];
        private final long[] trialNames = new long[TRIALS_MOST];
        private final int[] shown = new int[TRIALS_MOST];
        private final byte[] fewestOf = new byte[1 << CAUSES_MOST];
        private int known = 0;
        private int positive = 0;

        void clear() {
            count = 0;
            trials = 0;
            known = 0;
            positive = 0;
        }

        boolean readCause(Reader reader) {
            if (count >= CAUSES_MOST) {
                return reader.refuse(CANT_STAND);
            }
            reader.advance();
            if (!reader.takeNewName(causeNames, count)) {
                return false;
            }
            count++;
            return true;
        }

        boolean readTrial(Reader reader) {
            if (trials >= TRIALS_MOST) {
                return reader.refuse(CANT_STAND);
            }
            reader.advance();
            if (!reader.takeNewName(trialNames, trials) || !reader.take(SHOWS)) {
                return false;
            }
            int bits = 0;
            for (int n = 0; n <= CAUSES_MOST && (n == 0 || reader.kind == NAME); n++) {
                if (reader.kind != NAME) {
                    return reader.refuse(CANT_STAND);
                }
                int cause = indexOf(causeNames, count, reader.name);
                if (cause == NONE) {
                    return reader.refuse(NO_SUCH);
                }
                if ((bits >> cause & 1) == 1) {
                    return reader.refuse(TOLD_ALREADY);
                }
                bits |= 1 << cause;
                reader.advance();
            }
            shown[trials] = bits;
            trials++;
            return true;
        }

        boolean tell(int trial, boolean shows) {
            if (!within(trial, 0, trials - 1)) {
                return false;
            }
            int bit = 1 << trial;
            boolean isKnown = (known & bit) != 0;
            boolean wasShown = (positive & bit) != 0;
            if (isKnown && wasShown == shows) {
                return false;
            }
            known |= bit;
            positive = shows ? positive | bit : positive & ~bit;
            return true;
        }

        int possible() {
            int bits = (1 << count) - 1;
            for (int t = 0; t < trials; t++) {
                if ((known >> t & 1) == 1) {
                    bits &= (positive >> t & 1) == 1 ? shown[t] : ~shown[t];
                }
            }
            return bits;
        }

        int bestTrial() {
            int bits = possible();
            int best = NONE;
            // A TRIAL that leaves all of MAYBE in one part does not part it.
            int least = Integer.bitCount(bits);
            for (int t = 0; t < trials; t++) {
                int greater = Math.max(Integer.bitCount(bits & shown[t]), Integer.bitCount(bits & ~shown[t]));
                if ((known >> t & 1) == 0 && greater < least) {
                    best = t;
                    least = greater;
                }
            }
            return best;
        }

        int fewestTrials() {
            // All that is left agrees on TRIALS with a RESULT, so the table of all TRIALS holds for it.
            return fewestOf[possible() & (fewestOf.length - 1)];
        }

        /** FEWEST for each set of CAUSES; the parts of a set are lesser numbers than it, so they are there already. */
        void fillFewest() {
            fewestOf[0] = 0;
            for (int bits = 1; bits < 1 << count; bits++) {
                fewestOf[bits] = (byte) (Integer.bitCount(bits) == 1 ? 0 : fewestFor(bits));
            }
        }

        private int fewestFor(int bits) {
            int best = NONE;
            for (int t = 0; t < trials; t++) {
                int in = bits & shown[t];
                int out = bits & ~shown[t];
                if (in != 0 && out != 0 && fewestOf[in] != NONE && fewestOf[out] != NONE) {
                    int needed = 1 + Math.max(fewestOf[in], fewestOf[out]);
                    if (best == NONE || needed < best) {
                        best = needed;
                    }
                }
            }
            return best;
        }
    }

    /** READINGS with the TIMES at which they were TOLD and UNTOLD. */
    private static final class Readings {
        int count = 0;
        int time = 0;
        private final int[] minutes = new int[READINGS_MOST];
        private final int[] sides = new int[READINGS_MOST];
        private final int[] numbers = new int[READINGS_MOST];
        private final int[] toldAt = new int[READINGS_MOST];
        private final int[] untoldAt = new int[READINGS_MOST];

        int tell(int minute, int side, int number) {
            if (!within(minute, 0, 199) || !within(side, -1, 1) || !within(number, -999, 999)
                    || count >= READINGS_MOST) {
                return NONE;
            }
            minutes[count] = minute;
            sides[count] = side;
            numbers[count] = number;
            toldAt[count] = time;
            untoldAt[count] = NONE;
            count++;
            return count - 1;
        }

        boolean takeBack(int reading) {
            if (!within(reading, 0, count - 1) || untoldAt[reading] != NONE) {
                return false;
            }
            untoldAt[reading] = time;
            return true;
        }

        int goOn(int by) {
            if (!within(by, 0, 1000) || time + by > TIME_MOST) {
                return NONE;
            }
            time += by;
            return time;
        }

        boolean counts(int i, int k) {
            return toldAt[i] <= k && (untoldAt[i] == NONE || untoldAt[i] > k);
        }

        /** What the unknowns are taken by in this reading's row, and its number behind them. */
        void row(int i, int[] terms) {
            terms[0] = 1;
            terms[1] = sides[i];
            terms[2] = minutes[i];
            terms[3] = sides[i] * sides[i];
            terms[4] = numbers[i];
        }
    }

    /** Least squares by whole numbers: each unknown is upper / lower, by determinants, which all stay within a long. */
    private static final class Fit {
        private static final int WIDTH = 5;
        final long[] upper = new long[WIDTH - 1];
        long lower = 0;
        private int unknowns = 0;
        private final long[] table = new long[WIDTH * (WIDTH - 1)];
        private final int[] terms = new int[WIDTH];

        /** False if more than one set of unknowns does it. */
        boolean solve(Readings readings, int wanted, int k) {
            unknowns = Math.max(0, Math.min(wanted, WIDTH - 1));
            gather(readings, k);
            lower = determinant(table, unknowns, 0, 0, NONE);
            if (lower <= 0) {
                return false;
            }
            for (int j = 0; j < unknowns; j++) {
                upper[j] = determinant(table, unknowns, 0, 0, j);
            }
            return true;
        }

        private void gather(Readings readings, int k) {
            for (int i = 0; i < table.length; i++) {
                table[i] = 0;
            }
            for (int r = 0; r < readings.count; r++) {
                if (readings.counts(r, k)) {
                    readings.row(r, terms);
                    addRow();
                }
            }
        }

        private void addRow() {
            for (int i = 0; i < unknowns; i++) {
                for (int j = 0; j < WIDTH; j++) {
                    table[i * WIDTH + j] += (long) terms[i] * terms[j];
                }
            }
        }

        /** By the rows from this one on and the columns not used; the numbers stand in the swapped column's place. */
        private static long determinant(long[] table, int size, int row, int used, int swapped) {
            if (row >= size) {
                return 1;
            }
            long whole = 0;
            long sign = 1;
            for (int column = 0; column < size; column++) {
                if ((used >> column & 1) == 0) {
                    long entry = table[row * WIDTH + (column == swapped ? WIDTH - 1 : column)];
                    if (entry != 0) {
                        whole += sign * entry * determinant(table, size, row + 1, used | 1 << column, swapped);
                    }
                    sign = -sign;
                }
            }
            return whole;
        }

        /** The upper part of OFF; its lower part is that of the unknowns. */
        long mostOff(Readings readings, int k) {
            long most = 0;
            for (int r = 0; r < readings.count; r++) {
                if (readings.counts(r, k)) {
                    readings.row(r, terms);
                    long off = terms[WIDTH - 1] * lower;
                    for (int j = 0; j < unknowns; j++) {
                        off -= terms[j] * upper[j];
                    }
                    most = Math.max(most, Math.abs(off));
                }
            }
            return most;
        }
    }

    /** HOUSES: what each lets, and what it shares with others. */
    private static final class Houses {
        int count = 0;
        private final long[] names = new long[HOUSES_MOST];
        private final long[] wires = new long[HOUSES_MOST];
        private final long[] cellars = new long[HOUSES_MOST];
        private final int[] low = new int[HOUSES_MOST];
        private final int[] high = new int[HOUSES_MOST];
        private final int[] partOf = new int[HOUSES_MOST];

        boolean read(Reader reader) {
            count = 0;
            for (int n = 0; n <= HOUSES_MOST; n++) {
                if (reader.kind == END) {
                    return true;
                }
                if (!readHouse(reader)) {
                    return false;
                }
                count++;
            }
            return false;
        }

        private boolean readHouse(Reader reader) {
            if (count >= HOUSES_MOST) {
                return reader.refuse(CANT_STAND);
            }
            if (!reader.take(HOUSE) || !reader.takeNewName(names, count)) {
                return false;
            }
            if (!reader.take(SAYS) || !reader.takeNumber(0, 9999)) {
                return false;
            }
            int says = reader.takenNumber;
            if (!reader.take(SPAN) || !reader.takeNumber(0, 999)) {
                return false;
            }
            low[count] = says - reader.takenNumber;
            high[count] = says + reader.takenNumber;
            if (!reader.take(WIRE) || !reader.takeName()) {
                return false;
            }
            wires[count] = reader.takenName;
            if (!reader.take(CELLAR) || !reader.takeName()) {
                return false;
            }
            cellars[count] = reader.takenName;
            return reader.take(';');
        }

        int more() {
            int greatestLow = low[0];
            int leastHigh = high[0];
            for (int i = 1; i < count; i++) {
                greatestLow = Math.max(greatestLow, low[i]);
                leastHigh = Math.min(leastHigh, high[i]);
            }
            // What lies between is closed from both ends at once.
            return Math.max(0, (greatestLow - leastHigh + 1) >> 1);
        }

        int out() {
            int best = 0;
            int fewest = count + 1;
            // Houses that let one number let the greatest of their lows too, so no other number need be tried.
            for (int i = 0; i < count; i++) {
                int bits = notLetting(low[i]);
                int size = Integer.bitCount(bits);
                if (size < fewest || size == fewest && bits < best) {
                    best = bits;
                    fewest = size;
                }
            }
            return best;
        }

        private int notLetting(int number) {
            int bits = 0;
            for (int i = 0; i < count; i++) {
                if (!within(number, low[i], high[i])) {
                    bits |= 1 << i;
                }
            }
            return bits;
        }

        int apart() {
            int parts = count;
            for (int i = 0; i < count; i++) {
                partOf[i] = i;
            }
            for (int i = 0; i < count; i++) {
                for (int j = 0; j < i; j++) {
                    boolean share = wires[i] == wires[j] || cellars[i] == cellars[j];
                    if (share && partOf[i] != partOf[j]) {
                        join(partOf[i], partOf[j]);
                        parts--;
                    }
                }
            }
            return parts;
        }

        private void join(int from, int to) {
            for (int i = 0; i < count; i++) {
                if (partOf[i] == from) {
                    partOf[i] = to;
                }
            }
        }
    }

    /** The SUM: each line's e in steps, operands ahead of their sign, and what it prints. */
    private static final class Sum {
        // Each sign stands between two units, so there are fewer signs than units.
        private static final int STEPS_MOST = 2 * UNITS_MOST;
        int lines = 0;
        int units = 0;
        final int[] worked = new int[LINES_MOST];
        final int[] slip = new int[LINES_MOST];
        private final long[] names = new long[LINES_MOST];
        private final int[] prints = new int[LINES_MOST];
        private final int[] firstStep = new int[LINES_MOST + 1];
        private final int[] stepKind = new int[STEPS_MOST];
        private final int[] stepValue = new int[STEPS_MOST];
        private final int[] stack = new int[STEPS_MOST];
        private final int[] comesTo = new int[LINES_MOST];
        private int steps = 0;

        boolean read(Reader reader) {
            lines = 0;
            units = 0;
            steps = 0;
            for (int n = 0; n <= LINES_MOST; n++) {
                if (reader.kind == END) {
                    workAll();
                    return true;
                }
                if (!readLine(reader)) {
                    return false;
                }
            }
            return false;
        }

        private boolean readLine(Reader reader) {
            if (lines >= LINES_MOST) {
                return reader.refuse(CANT_STAND);
            }
            if (!reader.takeNewName(names, lines) || !reader.take(IS)) {
                return false;
            }
            firstStep[lines] = steps;
            if (!readExpression(reader, 0)) {
                return false;
            }
            if (!reader.take(PRINTS) || !reader.takeSigned(-9999, 9999)) {
                return false;
            }
            prints[lines] = reader.takenNumber;
            lines++;
            firstStep[lines] = steps;
            return reader.take(';');
        }

        private boolean readExpression(Reader reader, int depth) {
            int addSign = 0;
            int timesSign = 0;
            for (int n = 0; n <= UNITS_MOST; n++) {
                if (!readUnit(reader, depth)) {
                    return false;
                }
                addSignStep(timesSign);
                timesSign = 0;
                if (reader.kind == '*' || reader.kind == '/') {
                    timesSign = reader.kind;
                } else {
                    // Here a term ends, so what was to be added to or taken from those ahead of it now can be.
                    addSignStep(addSign);
                    if (reader.kind != '+' && reader.kind != '-') {
                        return true;
                    }
                    addSign = reader.kind;
                }
                reader.advance();
            }
            return false;
        }

        private void addSignStep(int sign) {
            if (sign != 0) {
                addStep(sign, 0);
            }
        }

        private boolean readUnit(Reader reader, int depth) {
            boolean opens = reader.kind == '(';
            if (!opens && reader.kind != NUMBER && reader.kind != NAME) {
                return reader.refuse(CANT_STAND);
            }
            if (units >= UNITS_MOST || opens && depth > NEST_MOST) {
                return reader.refuse(CANT_STAND);
            }
            units++;
            if (opens) {
                reader.advance();
                return readExpression(reader, depth + 1) && reader.take(')');
            }
            int value = reader.kind == NUMBER ? reader.number : indexOf(names, lines, reader.name);
            if (value == NONE) {
                return reader.refuse(NO_SUCH);
            }
            addStep(reader.kind, value);
            reader.advance();
            return true;
        }

        private void addStep(int kind, int value) {
            if (steps < STEPS_MOST) {
                stepKind[steps] = kind;
                stepValue[steps] = value;
                steps++;
            }
        }

        private void workAll() {
            for (int i = 0; i < lines; i++) {
                worked[i] = valueOf(i, prints);
                slip[i] = prints[i] - worked[i];
            }
        }

        /** What a line's e comes to, by what the lines ahead are. */
        private int valueOf(int line, int[] ahead) {
            int depth = 0;
            for (int s = firstStep[line]; s < firstStep[line + 1]; s++) {
                int kind = stepKind[s];
                if (kind != NUMBER && kind != NAME) {
                    if (depth >= 2) {
                        depth--;
                        stack[depth - 1] = joined(kind, stack[depth - 1], stack[depth]);
                    }
                } else if (depth < stack.length) {
                    stack[depth] = kind == NUMBER ? stepValue[s] : ahead[stepValue[s]];
                    depth++;
                }
            }
            return stack[0];
        }

        private static int joined(int sign, int a, int b) {
            switch (sign) {
                case '+':
                    return a + b;
                case '-':
                    return a - b;
                case '*':
                    return a * b;
                default:
                    return b == 0 ? 0 : a / b;
            }
        }

        /** What the last line comes to if the SLIPS of these lines, as bits, are left in. */
        int lastWith(int slips) {
            int last = 0;
            for (int i = 0; i < lines; i++) {
                last = valueOf(i, comesTo) + ((slips >> i & 1) == 1 ? slip[i] : 0);
                comesTo[i] = last;
            }
            return last;
        }

        int moved(int line) {
            int all = (1 << LINES_MOST) - 1;
            return lastWith(all) - lastWith(all & ~(1 << line));
        }
    }
}
