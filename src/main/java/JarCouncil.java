/**
 * A council that speaks while water runs out of a jar: who is heard, what each says if all look to
 * themselves, what all together would say, and what follows from it.
 *
 * So that nothing is ever thrown, and no call is dear:
 * No call makes an object: all rows are made once, with the council, and used again.
 * Rows are read and written by at(), set(), longAt() and setLong() alone, which look at the place
 * first, so that no place outside a row is ever touched.
 * A divisor is a constant, or is tested in its method.
 * Calls go at most eight deep, and none comes back to itself.
 * All loops count.
 */
public final class JarCouncil {
    public static final int UNKNOWN = -1, OUTSIDE = -2, STATE = -3, FULL = -4, NONE = -9;
    public static final long LOST = Long.MIN_VALUE;

    private static final int FAULTS = -10;
    private static final int NULL = 1, CAST = 2, INDEX = 3, SIZE = 4;
    private static final int FAULTY_TEXT = -100;

    private static final int FEWEST_SPEAKERS = 2, MOST_SPEAKERS = 5, MOST_WORDS = 3;
    private static final int ALL_WORDS = MOST_SPEAKERS * MOST_WORDS;
    private static final int MOST_TURNS = MOST_SPEAKERS + 1;
    private static final int MOST_JAR = 99, MOST_LENGTH = 60, MOST_LEAK = 9, MOST_END = 99;
    private static final int MOST_DAYS = 6;
    private static final int MOST_ORDERS = 120;

    private static final int PLAIN = 0, THRIFTY = 1, OLD = 2;
    private static final int KINDS = 3;

    private static final int RUNNING = 0, EVEN = 1, HALVING = 2, ROUND = 3;
    private static final int LAWS = 4;

    /** A WORTH to every SPEAKER stands in one long, so many bits to each. */
    private static final int WORTH_BITS = 8;
    private static final int WORTH_MASK = 255;

    private final Sheets sheets;
    private final People people;
    private final Reader reader;
    private final Course course;
    private final Plan plan;
    private final Day today;
    /** Another course over the same people, for what would be under another law, order or leak. */
    private final Course trial;
    private final Plan trialPlan;
    private final Day trialDay;
    private final Log log;
    private final Motions motions;
    /** Whether the plan is that of the course as it is now. */
    private boolean planned = false;
    private int traced = 0;
    private int faulted = 0;

    public JarCouncil() {
        sheets = new Sheets();
        people = new People();
        reader = new Reader(sheets.cells, new People());
        course = new Course(people);
        plan = new Plan(course);
        today = new Day(plan);
        trial = new Course(people);
        trialPlan = new Plan(trial);
        trialDay = new Day(trialPlan);
        log = new Log();
        motions = new Motions(course, trialDay);
    }

    // ---- rows

    private static int at(int[] row, int i) {
        return row != null && i >= 0 && i < row.length ? row[i] : 0;
    }

    private static void set(int[] row, int i, int v) {
        if (row != null && i >= 0 && i < row.length) {
            row[i] = v;
        }
    }

    private static long longAt(long[] row, int i) {
        return row != null && i >= 0 && i < row.length ? row[i] : 0L;
    }

    private static void setLong(long[] row, int i, long v) {
        if (row != null && i >= 0 && i < row.length) {
            row[i] = v;
        }
    }

    // ---- worths, packed

    private static int worthIn(long worths, int k) {
        return k >= 0 && k < MOST_SPEAKERS ? (int) (worths >> (k * WORTH_BITS)) & WORTH_MASK : 0;
    }

    private static int worthToAll(long worths) {
        int sum = 0;
        for (int k = 0; k < MOST_SPEAKERS; k++) {
            sum += worthIn(worths, k);
        }
        return sum;
    }

    // ---- 1 the council

    public int council(int sheet, int lane, int i, int n) {
        int refusal = sheets.partRefusal(sheet, lane, i, n);
        if (refusal != 0) {
            return told(refusal);
        }
        int place = reader.firstFault(Sheets.placeOf(sheet, i), n);
        if (place >= 0) {
            return told(FAULTY_TEXT - place);
        }
        people.become(reader.draft);
        course.beginAnew();
        forgetWhatWas();
        return told(people.count);
    }

    public int ofSpeaker(int k, int what) {
        if (!people.has(k)) {
            return UNKNOWN;
        }
        switch (what) {
            case 0:
                return people.kindOf(k);
            case 1:
                return people.wordsOf(k);
            case 2:
                return course.placeOf(k);
            default:
                return OUTSIDE;
        }
    }

    public int ofWord(int k, int q, int what) {
        if (!people.hasWord(k, q)) {
            return UNKNOWN;
        }
        switch (what) {
            case 0:
                return people.lengthOf(k, q);
            case 1:
                return people.ownOf(k, q);
            case 2:
                return people.othersOf(k, q);
            default:
                return OUTSIDE;
        }
    }

    public int law(int v) {
        if (v < 0 || v >= LAWS) {
            return OUTSIDE;
        }
        if (people.count == 0) {
            return STATE;
        }
        int was = course.law;
        course.law = v;
        forgetWhatWas();
        return was;
    }

    public int swap(int k, int j) {
        if (!people.has(k) || !people.has(j)) {
            return UNKNOWN;
        }
        course.exchange(course.placeOf(k), course.placeOf(j));
        forgetWhatWas();
        return 1;
    }

    private void forgetWhatWas() {
        planned = false;
        motions.forget();
        log.clear();
    }

    // ---- 2 days told

    public int judge(int sheet, int lane, int i, int n, int what) {
        int refusal = hear(sheet, lane, i, n);
        if (refusal != 0) {
            return told(refusal);
        }
        switch (what) {
            case 0:
                return told(today.heard);
            case 1:
                return told(today.cut);
            case 2:
                return told(today.water);
            default:
                return told(OUTSIDE);
        }
    }

    public int worthOf(int sheet, int lane, int i, int n, int k) {
        int refusal = hear(sheet, lane, i, n);
        if (refusal != 0) {
            return told(refusal);
        }
        return told(people.has(k) ? worthIn(today.worths, k) : UNKNOWN);
    }

    /** Lets a told day go by in today; 0, or why it can't be. */
    private int hear(int sheet, int lane, int i, int n) {
        int refusal = sheets.partRefusal(sheet, lane, i, n);
        if (refusal != 0) {
            return refusal;
        }
        if (people.count == 0) {
            return STATE;
        }
        if (n > course.turns()) {
            return OUTSIDE;
        }
        if (!areWords(sheet, i, n)) {
            return UNKNOWN;
        }
        today.begin();
        for (int turn = 0; turn < n && turn < MOST_TURNS; turn++) {
            today.speak(sheets.valueAt(sheet, i + turn));
        }
        return 0;
    }

    private boolean areWords(int sheet, int i, int n) {
        for (int turn = 0; turn < n && turn < MOST_TURNS; turn++) {
            int word = sheets.valueAt(sheet, i + turn);
            if (word != NONE && !people.hasWord(course.whoIn(turn), word)) {
                return false;
            }
        }
        return true;
    }

    // ---- 3 for himself, together

    public int choice(int turn, int water) {
        if (!course.hasTurn(turn)) {
            return UNKNOWN;
        }
        if (water < 0 || water > people.jar) {
            return OUTSIDE;
        }
        planAhead();
        return plan.wordAt(turn, water);
    }

    public int says(int turn) {
        if (!course.hasTurn(turn)) {
            return UNKNOWN;
        }
        planAhead();
        today.goFreely();
        return today.saidIn(turn);
    }

    public int water(int turn) {
        if (!course.hasTurn(turn)) {
            return UNKNOWN;
        }
        planAhead();
        today.goFreely();
        return today.waterIn(turn);
    }

    public int worth(int k) {
        if (!people.has(k)) {
            return UNKNOWN;
        }
        planAhead();
        today.goFreely();
        return worthIn(today.worths, k);
    }

    public int together(int q) {
        if (q != -1 && !course.hasTurn(q)) {
            return UNKNOWN;
        }
        if (people.count == 0) {
            return STATE;
        }
        trial.follow(course);
        trialPlan.makeForAll();
        trialDay.goFreely();
        return q == -1 ? worthToAll(trialDay.worths) : trialDay.saidIn(q);
    }

    private void planAhead() {
        if (!planned) {
            plan.makeForEach();
            planned = true;
        }
    }

    // ---- 4 thanks, orders

    public long owed(int k, int j) {
        if (!areTwo(k, j)) {
            return LOST;
        }
        int first = course.placeOf(k);
        planAhead();
        today.goForced(first, NONE);
        int silent = worthIn(today.worths, j);
        today.goForced(first, people.longestWithin(k, today.waterIn(first)));
        return silent - worthIn(today.worths, j);
    }

    public long bargain(int k, int j) {
        if (!areTwo(k, j)) {
            return LOST;
        }
        planAhead();
        today.goForced(course.placeOf(k), NONE);
        int silent = worthIn(today.worths, k) + worthIn(today.worths, j);
        today.goFreely();
        return silent - worthIn(today.worths, k) - worthIn(today.worths, j);
    }

    private boolean areTwo(int k, int j) {
        return people.has(k) && people.has(j) && k != j;
    }

    public int motion(int k, int q, int p) {
        if (!people.hasWord(k, q) || p < -1 || p >= people.count) {
            return UNKNOWN;
        }
        motions.seek();
        if (!motions.isFound(k, q)) {
            return NONE;
        }
        return p == -1 ? motions.changesFor(k, q) : motions.whoFor(k, q, p);
    }

    public int dry(int k, int q) {
        if (!people.hasWord(k, q)) {
            return UNKNOWN;
        }
        planAhead();
        int those = 0;
        for (int j = 0; j < people.count && j < MOST_SPEAKERS; j++) {
            if (j != k && canSilence(j, k, q)) {
                those |= 1 << j;
            }
        }
        return those;
    }

    private boolean canSilence(int j, int k, int q) {
        int first = course.placeOf(j);
        today.goForced(first, NONE);
        boolean silenced = !today.hasSaid(k, q);
        for (int word = 0; word < people.wordsOf(j) && word < MOST_WORDS && !silenced; word++) {
            today.goForced(first, word);
            silenced = !today.hasSaid(k, q);
        }
        return silenced;
    }

    // ---- 5 the log, laws, shares

    public int day(int sheet, int lane, int i, int end) {
        int turns = course.turns();
        int refusal = sheets.partRefusal(sheet, lane, i, turns);
        if (refusal != 0) {
            return told(refusal);
        }
        if (people.count == 0) {
            return told(STATE);
        }
        if (!areWords(sheet, i, turns)) {
            return told(UNKNOWN);
        }
        if (end < 0 || end > MOST_END) {
            return told(OUTSIDE);
        }
        if (log.count >= MOST_DAYS) {
            return told(FULL);
        }
        for (int turn = 0; turn < turns && turn < MOST_TURNS; turn++) {
            log.note(turn, sheets.valueAt(sheet, i + turn));
        }
        return told(log.close(end));
    }

    public int back(int k) {
        if (k < 0 || k > log.count) {
            return OUTSIDE;
        }
        log.count -= k;
        return log.count;
    }

    public int guess(int what) {
        if (what != 0 && what != 1) {
            return OUTSIDE;
        }
        if (people.count == 0) {
            return STATE;
        }
        trial.follow(course);
        log.compare(trial, trialDay);
        int pairs = 0;
        int first = NONE;
        for (int since = 0; since <= log.count && since <= MOST_DAYS; since++) {
            for (int leak = 0; leak <= MOST_LEAK; leak++) {
                if (log.fits(since, leak)) {
                    pairs++;
                    first = first == NONE ? 10 * since + leak : first;
                }
            }
        }
        return what == 0 ? pairs : first;
    }

    public int byLaw(int v) {
        if (v < -1 || v >= LAWS) {
            return OUTSIDE;
        }
        if (people.count == 0) {
            return STATE;
        }
        if (v >= 0) {
            return worthUnder(v);
        }
        int best = 0;
        int most = worthUnder(0);
        for (int other = 1; other < LAWS; other++) {
            int all = worthUnder(other);
            if (all > most) {
                most = all;
                best = other;
            }
        }
        return best;
    }

    private int worthUnder(int v) {
        trial.follow(course);
        trial.law = v;
        trialPlan.makeForFreeDay();
        trialDay.goFreely();
        return worthToAll(trialDay.worths);
    }

    public long share(int k, int which) {
        if (!people.has(k) || which != 0 && which != 1) {
            return LOST;
        }
        planAhead();
        today.goFreely();
        int upper = today.runAwayBy(k);
        int lower = people.jar;
        int part = commonPart(upper, lower);
        if (part <= 0) {
            return LOST;
        }
        return which == 0 ? upper / part : lower / part;
    }

    private static int commonPart(int a, int b) {
        int larger = a;
        int smaller = b;
        for (int step = 0; step < MOST_JAR && smaller > 0; step++) {
            int rest = larger % smaller;
            larger = smaller;
            smaller = rest;
        }
        return larger;
    }

    // ---- 6 sheets, parts

    public int sheet(int k, int lane, int n) {
        if (!Sheets.isSheet(k)) {
            return told(UNKNOWN);
        }
        if (!Sheets.isLane(lane) || n > Sheets.MOST) {
            return told(OUTSIDE);
        }
        if (n < 0) {
            return told(FAULTS - SIZE);
        }
        sheets.renew(k, lane, n);
        return told(1);
    }

    public int lose(int k) {
        if (!Sheets.isSheet(k)) {
            return UNKNOWN;
        }
        return sheets.drop(k) ? 1 : 0;
    }

    public int put(int k, int i, int v) {
        if (!Sheets.isSheet(k)) {
            return told(UNKNOWN);
        }
        if (sheets.isEmpty(k)) {
            return told(FAULTS - NULL);
        }
        if (i < 0 || i >= sheets.sizeOf(k)) {
            return told(FAULTS - INDEX);
        }
        sheets.store(k, i, v);
        return told(1);
    }

    public long cell(int k, int i, int lane) {
        int refusal = sheets.rowRefusal(k, lane);
        if (refusal == 0 && (i < 0 || i >= sheets.sizeOf(k))) {
            refusal = FAULTS - INDEX;
        }
        return told(refusal) == 0 ? sheets.valueAt(k, i) : LOST;
    }

    public int copy(int k, int i, int other, int j, int n) {
        if (!Sheets.isSheet(k) || !Sheets.isSheet(other)) {
            return told(UNKNOWN);
        }
        if (sheets.isEmpty(k) || sheets.isEmpty(other)) {
            return told(FAULTS - NULL);
        }
        if (sheets.laneOf(k) != sheets.laneOf(other)) {
            return told(FAULTS - CAST);
        }
        if (n < 0 || !sheets.hasPart(k, i, n) || !sheets.hasPart(other, j, n)) {
            return told(FAULTS - INDEX);
        }
        sheets.move(k, i, other, j, n);
        return told(n);
    }

    public int tell(int k) {
        if (!people.has(k)) {
            return UNKNOWN;
        }
        switch (people.kindOf(k)) {
            case OLD:
                return tellOld(k);
            case THRIFTY:
                return tellThrifty(k);
            default:
                return tellPlain(k);
        }
    }

    private int tellPlain(int k) {
        leaveTrace(1);
        return people.wordsOf(k);
    }

    private int tellThrifty(int k) {
        leaveTrace(2);
        return tellPlain(k) + 100;
    }

    private int tellOld(int k) {
        leaveTrace(3);
        int thrifty = tellThrifty(k);
        return thrifty + tellPlain(k);
    }

    public int call(int k) {
        if (!people.has(k)) {
            return UNKNOWN;
        }
        if (people.kindOf(k) == OLD) {
            leaveTrace(5);
            return 90;
        }
        leaveTrace(4);
        return k;
    }

    private void leaveTrace(int body) {
        traced = 31 * traced + body;
    }

    public int as(int k, int kind) {
        if (!people.has(k)) {
            return told(UNKNOWN);
        }
        if (kind < PLAIN || kind >= KINDS) {
            return told(OUTSIDE);
        }
        return told(kind <= people.kindOf(k) ? 1 : FAULTS - CAST);
    }

    public int trace() {
        return traced;
    }

    public int fault() {
        return faulted;
    }

    public int many(int what) {
        switch (what) {
            case 0:
                return people.count;
            case 1:
                return people.jar;
            case 2:
                return course.leak;
            case 3:
                return course.law;
            case 4:
                return course.turns();
            case 5:
                return log.count;
            default:
                return OUTSIDE;
        }
    }

    /** The answer of a call that names FAULTS: what it came to is kept for fault(). */
    private int told(int answer) {
        boolean isFault = answer <= FAULTS - NULL && answer >= FAULTS - SIZE;
        faulted = isFault ? FAULTS - answer : 0;
        return answer;
    }

    /** The sheets; their cells stand in one row, so that a new row of a sheet costs nothing. */
    private static final class Sheets {
        private static final int COUNT = 4, MOST = 100, LANES = 3;
        private static final int NOTHING = -1, BYTES = 0, SHORTS = 1;
        private final int[] lanes = new int[COUNT];
        private final int[] sizes = new int[COUNT];
        private final int[] cells = new int[COUNT * MOST];

        private Sheets() {
            for (int k = 0; k < COUNT; k++) {
                set(lanes, k, NOTHING);
            }
        }

        private static boolean isSheet(int k) {
            return k >= 0 && k < COUNT;
        }

        private static boolean isLane(int lane) {
            return lane >= 0 && lane < LANES;
        }

        private int laneOf(int k) {
            return at(lanes, k);
        }

        private int sizeOf(int k) {
            return at(sizes, k);
        }

        private boolean isEmpty(int k) {
            return laneOf(k) == NOTHING;
        }

        private static int placeOf(int k, int i) {
            return k * MOST + i;
        }

        private int valueAt(int k, int i) {
            return at(cells, placeOf(k, i));
        }

        private void renew(int k, int lane, int n) {
            set(lanes, k, lane);
            set(sizes, k, n);
            for (int i = 0; i < MOST; i++) {
                set(cells, placeOf(k, i), 0);
            }
        }

        private boolean drop(int k) {
            boolean had = !isEmpty(k);
            set(lanes, k, NOTHING);
            set(sizes, k, 0);
            return had;
        }

        private void store(int k, int i, int v) {
            set(cells, placeOf(k, i), cutTo(laneOf(k), v));
        }

        private static int cutTo(int lane, int v) {
            if (lane == BYTES) {
                return (byte) v;
            }
            return lane == SHORTS ? (short) v : v;
        }

        /** From the end that is overwritten last, as both parts may be of one sheet. */
        private void move(int k, int i, int other, int j, int n) {
            boolean backwards = j > i;
            for (int done = 0; done < n && done < MOST; done++) {
                int step = backwards ? n - 1 - done : done;
                set(cells, placeOf(other, j + step), valueAt(k, i + step));
            }
        }

        private boolean hasPart(int k, int i, int n) {
            return i >= 0 && i <= sizeOf(k) && n <= sizeOf(k) - i;
        }

        /** 0, or why what a sheet has can't be taken as a row of a lane. */
        private int rowRefusal(int k, int lane) {
            if (!isSheet(k)) {
                return UNKNOWN;
            }
            if (!isLane(lane)) {
                return OUTSIDE;
            }
            if (isEmpty(k)) {
                return FAULTS - NULL;
            }
            return laneOf(k) == lane ? 0 : FAULTS - CAST;
        }

        /** 0, or why n cells from i on can't be taken as a row of a lane. */
        private int partRefusal(int k, int lane, int i, int n) {
            int refusal = rowRefusal(k, lane);
            if (refusal != 0) {
                return refusal;
            }
            if (n < 0) {
                return FAULTS - SIZE;
            }
            return hasPart(k, i, n) ? 0 : FAULTS - INDEX;
        }
    }

    /** The jar, its leak, and the speakers with their words, as a text tells them. */
    private static final class People {
        private int count = 0;
        private int jar = 0;
        private int leak = 0;
        private final int[] kinds = new int[MOST_SPEAKERS];
        private final int[] words = new int[MOST_SPEAKERS];
        private final int[] lengths = new int[ALL_WORDS];
        private final int[] owns = new int[ALL_WORDS];
        private final int[] others = new int[ALL_WORDS];
        private final long[] gains = new long[ALL_WORDS];

        private void begin(int drops, int runs) {
            count = 0;
            jar = drops;
            leak = runs;
        }

        private void addSpeaker(int kind) {
            if (count < MOST_SPEAKERS) {
                set(kinds, count, kind);
                set(words, count, 0);
                count++;
            }
        }

        private void addWord(int length, int own, int other) {
            int k = count - 1;
            int q = wordsOf(k);
            if (k >= 0 && q < MOST_WORDS) {
                int place = placeOfWord(k, q);
                set(lengths, place, length);
                set(owns, place, own);
                set(others, place, other);
                set(words, k, q + 1);
            }
        }

        private void become(People draft) {
            begin(draft.jar, draft.leak);
            for (int k = 0; k < draft.count && k < MOST_SPEAKERS; k++) {
                addSpeaker(draft.kindOf(k));
                for (int q = 0; q < draft.wordsOf(k) && q < MOST_WORDS; q++) {
                    addWord(draft.lengthOf(k, q), draft.ownOf(k, q), draft.othersOf(k, q));
                }
            }
            for (int place = 0; place < ALL_WORDS; place++) {
                setLong(gains, place, gainOf(place / MOST_WORDS, place));
            }
        }

        private long gainOf(int k, int place) {
            long gain = 0;
            for (int j = 0; j < count && j < MOST_SPEAKERS; j++) {
                long part = j == k ? at(owns, place) : at(others, place);
                gain |= part << (j * WORTH_BITS);
            }
            return gain;
        }

        private boolean has(int k) {
            return k >= 0 && k < count;
        }

        private boolean hasWord(int k, int q) {
            return has(k) && q >= 0 && q < wordsOf(k);
        }

        private static int placeOfWord(int k, int q) {
            return k * MOST_WORDS + q;
        }

        private int kindOf(int k) {
            return at(kinds, k);
        }

        private int wordsOf(int k) {
            return at(words, k);
        }

        private int lengthOf(int k, int q) {
            return at(lengths, placeOfWord(k, q));
        }

        private int ownOf(int k, int q) {
            return at(owns, placeOfWord(k, q));
        }

        private int othersOf(int k, int q) {
            return at(others, placeOfWord(k, q));
        }

        private long gainBy(int k, int q) {
            return longAt(gains, placeOfWord(k, q));
        }

        private int longestWithin(int k, int water) {
            int best = NONE;
            int longest = 0;
            for (int q = 0; q < wordsOf(k) && q < MOST_WORDS; q++) {
                int length = lengthOf(k, q);
                if (length <= water && length > longest) {
                    longest = length;
                    best = q;
                }
            }
            return best;
        }
    }

    /** Reads a text into a draft, so that a faulty one changes nothing. */
    private static final class Reader {
        private static final int NO_FAULT = -1;
        private final int[] cells;
        private final People draft;
        private int from = 0;
        private int size = 0;
        private int next = 0;
        private int fault = NO_FAULT;

        private Reader(int[] cells, People draft) {
            this.cells = cells;
            this.draft = draft;
        }

        /** The place of the first fault, or -1: then the draft has all that the text tells. */
        private int firstFault(int start, int n) {
            from = start;
            size = n;
            next = 0;
            fault = NO_FAULT;
            if (!readJar()) {
                return fault;
            }
            for (int k = 0; k < MOST_SPEAKERS; k++) {
                if (k >= FEWEST_SPEAKERS && next >= size) {
                    return NO_FAULT;
                }
                if (!readSign(';') || !readSpeaker()) {
                    return fault;
                }
            }
            return next < size ? next : NO_FAULT;
        }

        private boolean readJar() {
            if (!readSign('j')) {
                return false;
            }
            int drops = readNumber(MOST_JAR);
            if (drops < 0 || !readSign(';') || !readSign('l')) {
                return false;
            }
            int runs = readDigit();
            draft.begin(drops, runs);
            return runs >= 0;
        }

        private boolean readSpeaker() {
            int kind = kindOfSign();
            if (kind < 0) {
                fault = next;
                return false;
            }
            next++;
            draft.addSpeaker(kind);
            for (int q = 0; q < MOST_WORDS; q++) {
                if (q > 0 && !isNext('w')) {
                    return true;
                }
                if (!readSign('w') || !readWord()) {
                    return false;
                }
            }
            return true;
        }

        private int kindOfSign() {
            if (isNext('p')) {
                return PLAIN;
            }
            if (isNext('t')) {
                return THRIFTY;
            }
            return isNext('o') ? OLD : -1;
        }

        private boolean readWord() {
            int length = readNumber(MOST_LENGTH);
            if (length < 0) {
                return false;
            }
            int own = readDigit();
            if (own < 0) {
                return false;
            }
            int other = readDigit();
            draft.addWord(length, own, other);
            return other >= 0;
        }

        /** Two digits that make no number of 1 .. most are at fault where they begin. */
        private int readNumber(int most) {
            int first = next;
            int tens = readDigit();
            if (tens < 0) {
                return -1;
            }
            if (tens > most / 10) {
                fault = first;
                return -1;
            }
            int ones = readDigit();
            if (ones < 0) {
                return -1;
            }
            int number = 10 * tens + ones;
            if (number < 1 || number > most) {
                fault = first;
                return -1;
            }
            return number;
        }

        private int readDigit() {
            int code = at(cells, from + next);
            if (next >= size || code < '0' || code > '9') {
                fault = next;
                return -1;
            }
            next++;
            return code - '0';
        }

        private boolean readSign(int sign) {
            if (!isNext(sign)) {
                fault = next;
                return false;
            }
            next++;
            return true;
        }

        private boolean isNext(int sign) {
            return next < size && at(cells, from + next) == sign;
        }
    }

    /** In which order, by which law and with which leak days go by. */
    private static final class Course {
        private final People people;
        private final int[] order = new int[MOST_SPEAKERS];
        private int law = RUNNING;
        private int leak = 0;

        private Course(People people) {
            this.people = people;
        }

        private void beginAnew() {
            law = RUNNING;
            leak = people.leak;
            takeFirstOrder();
        }

        private void takeFirstOrder() {
            for (int place = 0; place < MOST_SPEAKERS; place++) {
                set(order, place, place);
            }
        }

        private void follow(Course other) {
            law = other.law;
            leak = other.leak;
            for (int place = 0; place < MOST_SPEAKERS; place++) {
                set(order, place, other.whoAt(place));
            }
        }

        private int turns() {
            return law == ROUND && people.count > 0 ? people.count + 1 : people.count;
        }

        private boolean hasTurn(int turn) {
            return turn >= 0 && turn < turns();
        }

        private int whoAt(int place) {
            return at(order, place);
        }

        private int whoIn(int turn) {
            return at(order, turn < people.count ? turn : 0);
        }

        private int placeOf(int k) {
            for (int place = 0; place < people.count && place < MOST_SPEAKERS; place++) {
                if (whoAt(place) == k) {
                    return place;
                }
            }
            return UNKNOWN;
        }

        private void exchange(int p, int r) {
            int who = whoAt(p);
            set(order, p, whoAt(r));
            set(order, r, who);
        }

        private int firstWater() {
            return law == EVEN && people.count > 0 ? people.jar / people.count : people.jar;
        }

        /** How much water the next turn has, if one ends with so much. */
        private int waterBehind(int water) {
            if (law == EVEN) {
                return firstWater();
            }
            int left = water > leak ? water - leak : 0;
            return law == HALVING ? left / 2 : left;
        }

        /** Takes the order that is next as a row; false: this was the last. */
        private boolean takeNextOrder() {
            int rise = -1;
            for (int place = 0; place + 1 < people.count && place < MOST_SPEAKERS; place++) {
                if (whoAt(place) < whoAt(place + 1)) {
                    rise = place;
                }
            }
            if (rise < 0) {
                return false;
            }
            int above = rise + 1;
            for (int place = rise + 1; place < people.count && place < MOST_SPEAKERS; place++) {
                if (whoAt(place) > whoAt(rise)) {
                    above = place;
                }
            }
            exchange(rise, above);
            int low = rise + 1;
            for (int high = people.count - 1; high > low; high--) {
                exchange(low, high);
                low++;
            }
            return true;
        }

        private int changesFrom(Course other) {
            int changes = 0;
            for (int place = 0; place < people.count && place < MOST_SPEAKERS; place++) {
                if (whoAt(place) != other.whoAt(place)) {
                    changes++;
                }
            }
            return changes;
        }
    }

    /** What is said in each turn at each level of water, from the last turn back. */
    private static final class Plan {
        private static final int LEVELS = MOST_JAR + 1;
        private static final int STATES = MOST_TURNS * LEVELS;
        private final Course course;
        private final People people;
        private final int[] words = new int[STATES];
        private final long[] worths = new long[STATES];
        /** The states that this making settles, those of earlier turns first. */
        private final int[] open = new int[STATES];
        private int opened = 0;
        /** In which making a state was last opened. */
        private final int[] reached = new int[STATES];
        private int making = 0;
        private int turns = 0;

        private Plan(Course course) {
            this.course = course;
            this.people = course.people;
        }

        /** As each looks to himself, at all levels of water. */
        private void makeForEach() {
            beginMaking();
            for (int turn = 0; turn < turns && turn < MOST_TURNS; turn++) {
                for (int water = 0; water <= people.jar && water < LEVELS; water++) {
                    openState(turn, water);
                }
            }
            settleAll(false);
        }

        /** As each looks to himself, at those levels alone that a free day can come to. */
        private void makeForFreeDay() {
            openWhatIsReached();
            settleAll(false);
        }

        private void makeForAll() {
            openWhatIsReached();
            settleAll(true);
        }

        private void beginMaking() {
            making++;
            opened = 0;
            turns = course.turns();
        }

        /** Motions ask for many plans, and a day comes to few of the levels. */
        private void openWhatIsReached() {
            beginMaking();
            openState(0, course.firstWater());
            for (int i = 0; i < opened && i < STATES; i++) {
                int state = at(open, i);
                openBehind(state / LEVELS, state % LEVELS);
            }
        }

        private void openBehind(int turn, int water) {
            int who = course.whoIn(turn);
            openState(turn + 1, course.waterBehind(water));
            for (int q = 0; q < people.wordsOf(who) && q < MOST_WORDS; q++) {
                int length = people.lengthOf(who, q);
                if (length <= water) {
                    openState(turn + 1, course.waterBehind(water - length));
                }
            }
        }

        private void openState(int turn, int water) {
            int state = stateOf(turn, water);
            if (turn < turns && at(reached, state) != making) {
                set(reached, state, making);
                set(open, opened, state);
                opened++;
            }
        }

        private void settleAll(boolean forAll) {
            for (int i = opened - 1; i >= 0; i--) {
                int state = at(open, i);
                settle(state / LEVELS, state % LEVELS, forAll);
            }
        }

        private void settle(int turn, int water, boolean forAll) {
            int who = course.whoIn(turn);
            int kind = people.kindOf(who);
            int free = forAll || kind != OLD ? people.wordsOf(who) : 0;
            int best = NONE;
            int bestLength = 0;
            long bestWorths = worthsFrom(turn + 1, course.waterBehind(water));
            for (int q = 0; q < free && q < MOST_WORDS; q++) {
                int length = people.lengthOf(who, q);
                if (length <= water) {
                    int left = course.waterBehind(water - length);
                    long those = worthsFrom(turn + 1, left) + people.gainBy(who, q);
                    int more = forAll
                            ? worthToAll(those) - worthToAll(bestWorths)
                            : worthIn(those, who) - worthIn(bestWorths, who);
                    boolean rather = forAll
                            ? best == NONE
                            : isRather(kind, length, bestLength);
                    if (more > 0 || more == 0 && rather) {
                        best = q;
                        bestLength = length;
                        bestWorths = those;
                    }
                }
            }
            set(words, stateOf(turn, water), best);
            setLong(worths, stateOf(turn, water), bestWorths);
        }

        private static boolean isRather(int kind, int length, int bestLength) {
            return kind == PLAIN ? length > bestLength : length < bestLength;
        }

        private long worthsFrom(int turn, int water) {
            return turn < turns ? longAt(worths, stateOf(turn, water)) : 0L;
        }

        private int wordAt(int turn, int water) {
            return at(words, stateOf(turn, water));
        }

        private static int stateOf(int turn, int water) {
            return turn * LEVELS + water;
        }
    }

    /** A day as it goes by, turn by turn. */
    private static final class Day {
        private static final int NO_TURN = -1;
        private final Plan plan;
        private final Course course;
        private final People people;
        private final int[] said = new int[MOST_TURNS];
        private final int[] waters = new int[MOST_TURNS];
        private int turn = 0;
        private int water = 0;
        private int heard = 0;
        private int cut = NONE;
        private long worths = 0;

        private Day(Plan plan) {
            this.plan = plan;
            this.course = plan.course;
            this.people = plan.course.people;
        }

        private void begin() {
            turn = 0;
            water = course.firstWater();
            heard = 0;
            cut = NONE;
            worths = 0;
        }

        private void speak(int word) {
            int who = course.whoIn(turn);
            set(said, turn, word);
            set(waters, turn, water);
            int length = word == NONE ? 0 : people.lengthOf(who, word);
            if (length > water) {
                cut = cut == NONE ? turn : cut;
                water = 0;
            } else if (word != NONE) {
                heard++;
                worths += people.gainBy(who, word);
                water -= length;
            }
            water = course.waterBehind(water);
            turn++;
        }

        private void goFreely() {
            goForced(NO_TURN, NONE);
        }

        /** All as the plan has it, but for one turn. */
        private void goForced(int forced, int word) {
            begin();
            for (int t = 0; t < course.turns() && t < MOST_TURNS; t++) {
                speak(t == forced ? word : plan.wordAt(t, water));
            }
        }

        private int saidIn(int t) {
            return at(said, t);
        }

        private int waterIn(int t) {
            return at(waters, t);
        }

        private boolean hasSaid(int k, int q) {
            for (int t = 0; t < turn && t < MOST_TURNS; t++) {
                if (course.whoIn(t) == k && saidIn(t) == q) {
                    return true;
                }
            }
            return false;
        }

        /** Of a day in which nobody is cut off. */
        private int runAwayBy(int k) {
            int sum = 0;
            for (int t = 0; t < turn && t < MOST_TURNS; t++) {
                if (course.whoIn(t) == k && saidIn(t) != NONE) {
                    sum += people.lengthOf(k, saidIn(t));
                }
            }
            return sum;
        }
    }

    /** Days as they were told, with the water they ended with. */
    private static final class Log {
        private final int[] said = new int[MOST_DAYS * MOST_TURNS];
        private final int[] ends = new int[MOST_DAYS];
        /** Of each day the leaks by which it would have ended so, as bits. */
        private final int[] fitting = new int[MOST_DAYS];
        private int count = 0;

        private void clear() {
            count = 0;
        }

        /** What is said in a turn of the day that is told next. */
        private void note(int turn, int word) {
            set(said, count * MOST_TURNS + turn, word);
        }

        private int close(int end) {
            int number = count;
            set(ends, number, end);
            count++;
            return number;
        }

        private void compare(Course trial, Day trialDay) {
            for (int d = 0; d < count && d < MOST_DAYS; d++) {
                int leaks = 0;
                for (int leak = 0; leak <= MOST_LEAK; leak++) {
                    trial.leak = leak;
                    goBy(d, trialDay);
                    if (trialDay.water == at(ends, d)) {
                        leaks |= 1 << leak;
                    }
                }
                set(fitting, d, leaks);
            }
        }

        private void goBy(int d, Day trialDay) {
            trialDay.begin();
            for (int t = 0; t < trialDay.course.turns() && t < MOST_TURNS; t++) {
                trialDay.speak(at(said, d * MOST_TURNS + t));
            }
        }

        private boolean fits(int since, int leak) {
            for (int d = 0; d < count && d < MOST_DAYS; d++) {
                int those = at(fitting, d);
                int bit = d < since ? 0 : leak;
                if ((those >> bit & 1) == 0) {
                    return false;
                }
            }
            return true;
        }
    }

    /** For each word the order nearest to the one that is now in which it is said freely. */
    private static final class Motions {
        private static final int NOT_FOUND = MOST_SPEAKERS + 1;
        private static final int PLACE_BITS = 3, PLACE_MASK = 7;
        private final Course now;
        private final Course trial;
        private final Plan trialPlan;
        private final Day trialDay;
        private final int[] fewest = new int[ALL_WORDS];
        private final int[] rows = new int[ALL_WORDS];
        private boolean sought = false;

        private Motions(Course now, Day trialDay) {
            this.now = now;
            this.trialDay = trialDay;
            this.trialPlan = trialDay.plan;
            this.trial = trialDay.course;
        }

        private void forget() {
            sought = false;
        }

        /** All orders once, for all words: many motions are asked of one council. */
        private void seek() {
            if (sought) {
                return;
            }
            for (int place = 0; place < ALL_WORDS; place++) {
                set(fewest, place, NOT_FOUND);
            }
            trial.follow(now);
            trial.takeFirstOrder();
            boolean more = true;
            for (int tried = 0; tried < MOST_ORDERS && more; tried++) {
                trialPlan.makeForFreeDay();
                trialDay.goFreely();
                noteWords(trial.changesFrom(now), packedOrder());
                more = trial.takeNextOrder();
            }
            sought = true;
        }

        /** Orders come as rows in turn, so that a later one must be nearer to be taken. */
        private void noteWords(int changes, int row) {
            for (int t = 0; t < trial.turns() && t < MOST_TURNS; t++) {
                int word = trialDay.saidIn(t);
                int place = People.placeOfWord(trial.whoIn(t), word);
                if (word != NONE && changes < at(fewest, place)) {
                    set(fewest, place, changes);
                    set(rows, place, row);
                }
            }
        }

        private int packedOrder() {
            int row = 0;
            for (int place = 0; place < MOST_SPEAKERS; place++) {
                row |= trial.whoAt(place) << (place * PLACE_BITS);
            }
            return row;
        }

        private boolean isFound(int k, int q) {
            return changesFor(k, q) < NOT_FOUND;
        }

        private int changesFor(int k, int q) {
            return at(fewest, People.placeOfWord(k, q));
        }

        private int whoFor(int k, int q, int place) {
            int row = at(rows, People.placeOfWord(k, q));
            return row >> (place * PLACE_BITS) & PLACE_MASK;
        }
    }
}
