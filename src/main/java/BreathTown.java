/**
 * A town whose streets widen and narrow by tides of their own, told as a text.
 * ../shared/DOC.md says what each call answers; ../shared/LANGUAGE.md binds how it is written.
 */
public final class BreathTown {
    public static final int NONE = -1;
    public static final long NOTHING = -1000000000000000L;

    private static final int TAPE = 1600;
    private static final int MOST_PLACES = 9;
    private static final int MOST_STREETS = 12;
    private static final int MOST_WALKERS = 6;
    private static final int MOST_STATEMENTS = 70;
    private static final int MOST_OPEN = 6;
    private static final int MOST_LETTERS = 6;
    private static final int MOST_ROUND = 48;
    private static final int MOST_WIDTH = 99;
    private static final int MOST_SEEN = 20;
    private static final int MOST_ACTS = 20;
    private static final int MOST_NUMBER = 9999;
    private static final int HELD = 1000000;
    private static final int LAST_BEGIN = 999;
    private static final int LAST_HOUR = 9999;
    private static final int LAST_ASKED = 99999;
    private static final int FAR = 400;
    private static final int DAY_HOURS = 24;
    private static final int NEVER = 1000000;

    private static final int PLACES = 0;
    private static final int STREETS = 1;
    private static final int WALKERS = 2;

    private static final int UNEXPECTED = 1;
    private static final int IMPOSSIBLE = 2;
    private static final int MISNAMED = 3;
    private static final int TOO_DEEP = 4;
    private static final int TOO_MANY = 5;

    private static final int TIDE = -1;
    private static final int ROUND = -2;
    private static final int CLOCK = -3;
    private static final int DAY = -4;
    private static final int HOUR = -5;
    private static final int WIDTH_OF = -6;
    private static final int TIDE_OF = -7;
    private static final int PASSES_OF = -8;
    private static final int NOT = -9;
    private static final int ADD = -10;
    private static final int SUBTRACT = -11;
    private static final int TIMES = -12;
    private static final int OVER = -13;
    private static final int LEAST = -14;
    private static final int MOST = -15;
    private static final int LESS = -16;
    private static final int MORE = -17;
    private static final int SAME = -18;
    private static final int AND = -19;
    private static final int OR = -20;

    private static final String OWN_WORDS =
        "place street from to takes round shift wide walker broad at begin tide clock day min max ";

    private final Scan scan;
    private final Told told;
    private final Told draft;
    private final TownReader reader;
    private final Now now;
    private final Widths widths;
    private final Ways ways;
    private final Many many;
    private final Seen seen;
    private final Question question;
    private final int[] refusals;
    private int latestFault;
    private int latestPlace;
    private long seed;

    public BreathTown() {
        scan = new Scan();
        told = new Told();
        draft = new Told();
        reader = new TownReader(scan, draft);
        now = new Now(told);
        widths = new Widths(told, now);
        ways = new Ways(told, now, widths);
        many = new Many(told, now, widths, ways);
        seen = new Seen(told, now, widths);
        question = new Question(scan, told, now, widths, ways);
        refusals = new int[6];
        latestFault = 0;
        latestPlace = NONE;
        seed = 1;
    }

    // ---- the tape and the town

    public int feed(int a, int b, int c, int d, int e) {
        if (scan.length + 20 > TAPE) {
            return refused(0);
        }
        scan.append(a);
        scan.append(b);
        scan.append(c);
        scan.append(d);
        scan.append(e);
        return scan.length;
    }

    public boolean end(int n) {
        if (n < 0 || n > scan.length) {
            refused(0);
            return false;
        }
        scan.length = n;
        return true;
    }

    public int town() {
        int statements = reader.read();
        keepFault();
        if (statements == NONE) {
            return refused(1);
        }
        told.copy(draft);
        now.begin();
        widths.forget();
        seen.count = 0;
        return statements;
    }

    public int fault(int what) {
        if (what == 0) {
            return latestFault;
        }
        return what == 1 ? latestPlace : NONE;
    }

    public int has(int what) {
        switch (what) {
            case 0: case 1: case 2: return told.count(what);
            case 3: return now.hour;
            case 4: return now.hour / DAY_HOURS;
            case 5: return now.hour % DAY_HOURS;
            case 6: return now.freeWalkers();
            case 7: return seen.count;
            case 8: return now.kept;
            default: return NONE;
        }
    }

    public int letter(int kind, int which, int k) {
        if (!told.hasA(kind, which) || k < 0 || k >= MOST_LETTERS) {
            return NONE;
        }
        return (cell(told.names, kind * MOST_STREETS + which) >> (5 * k)) & 31;
    }

    public int street(int street, int what) {
        if (!told.hasA(STREETS, street)) {
            return NONE;
        }
        switch (what) {
            case 0: return cell(told.from, street);
            case 1: return cell(told.to, street);
            case 2: return cell(told.takes, street);
            case 3: return cell(told.rounds, street);
            case 4: return cell(now.shifts, street);
            case 5: return widths.tideAt(street, now.hour);
            case 6: return widths.widthAt(street, now.hour);
            default: return NONE;
        }
    }

    public int walker(int walker, int what) {
        if (!told.hasA(WALKERS, walker)) {
            return NONE;
        }
        switch (what) {
            case 0: return cell(told.broads, walker);
            case 1: return cell(now.places, walker);
            case 2: return cell(now.goals, walker);
            case 3: return cell(now.free, walker);
            default: return NONE;
        }
    }

    // ---- widths

    public int width(int street, int hour) {
        return told.hasA(STREETS, street) && isAsked(hour) ? widths.widthAt(street, hour) : NONE;
    }

    public int passes(int street, int broad, int hour) {
        if (!told.hasA(STREETS, street) || !isBreadth(broad) || !isAsked(hour)) {
            return NONE;
        }
        return ways.firstPass(street, broad, hour, hour) == NONE ? 0 : 1;
    }

    public int next(int street, int broad, int hour) {
        if (!told.hasA(STREETS, street) || !isBreadth(broad) || !isAsked(hour)) {
            return NONE;
        }
        return ways.firstPass(street, broad, hour, hour + FAR);
    }

    public int often(int street, int broad, int hour, int n) {
        if (!told.hasA(STREETS, street) || !isBreadth(broad) || !isAsked(hour) || n < 1 || n > 1000) {
            return NONE;
        }
        return ways.passCount(street, broad, hour, hour + n - 1);
    }

    public int wide(int streets, int n) {
        if (streets < 1 || streets >= 1 << told.count(STREETS) || !isBreadth(n)) {
            return NONE;
        }
        return widths.firstWide(streets, n);
    }

    // ---- ways

    public int way(int walker, int k) {
        int there = ways.plan(walker);
        if (there == NONE || k == NONE) {
            return there;
        }
        if (k == 20) {
            return ways.steps;
        }
        if (k >= 0 && k < ways.steps) {
            return cell(ways.stepStreets, k);
        }
        return k >= 100 && k - 100 < ways.steps ? cell(ways.stepHours, k - 100) : NONE;
    }

    public int arrival(int walker, int place) {
        if (!told.hasA(WALKERS, walker) || !told.hasA(PLACES, place)) {
            return NONE;
        }
        ways.searchFor(walker, NONE);
        return ways.soonestAt(place);
    }

    public int stuck(int walker, int what) {
        if (!told.hasA(WALKERS, walker) || what < 0 || what > 1) {
            return NONE;
        }
        return ways.stuckAt(walker, what);
    }

    public int needed(int walker) {
        return ways.plan(walker) == NONE ? NONE : ways.neededStreets(walker);
    }

    public int parade(int walker, int n) {
        return n < 0 || n > 48 || ways.plan(walker) == NONE ? NONE : ways.paradeHour(walker, n);
    }

    // ---- many at once

    public int rows(int n, int k) {
        if (n < 1 || n > 4 || n > told.count(WALKERS) || !many.findOrder(n)) {
            return NONE;
        }
        if (k == NONE) {
            return many.bestLast;
        }
        if (k >= 0 && k < n) {
            return cell(many.bestOrder, k);
        }
        return k >= 10 && k - 10 < n ? cell(many.bestArrivals, k - 10) : NONE;
    }

    public int doctors(int broad, int within, int k) {
        if (!isBreadth(broad) || within < 0 || within > FAR || told.count(PLACES) < 1) {
            return NONE;
        }
        int count = many.findDoctors(broad, within);
        if (k == NONE) {
            return count;
        }
        return k >= 0 && k < count ? cell(many.found, k) : NONE;
    }

    // ---- acts

    public int go(int n) {
        if (n < 1 || n > 500 || now.hour + n > LAST_HOUR) {
            return refused(2);
        }
        now.keep();
        now.hour += n;
        return now.hour;
    }

    public int send(int walker) {
        int there = ways.plan(walker);
        if (there == NONE || there > LAST_HOUR) {
            return refused(2);
        }
        now.keep();
        now.arrive(walker, there);
        return there;
    }

    public int hold(int street, int n) {
        if (!told.hasA(STREETS, street) || n < 1 || n > 99) {
            return refused(2);
        }
        now.keep();
        now.turn(street, -n);
        return cell(now.shifts, street);
    }

    public int days(int n) {
        if (n < 1 || n > 30 || now.hour + n * DAY_HOURS > LAST_HOUR) {
            return refused(2);
        }
        now.keep();
        for (int k = 0; k < n; k++) {
            passDay();
        }
        return now.hour;
    }

    public boolean undo() {
        if (now.kept < 1) {
            refused(3);
            return false;
        }
        now.takeBack();
        return true;
    }

    public boolean seed(int seed) {
        if (seed < 0) {
            refused(4);
            return false;
        }
        this.seed = seed;
        return true;
    }

    // ---- whose tide

    public int see() {
        boolean taken = seen.take(scan);
        scan.length = 0;
        return taken ? seen.count : refused(1);
    }

    public int shifts(int street, int k) {
        if (!told.hasA(STREETS, street)) {
            return NONE;
        }
        int count = seen.findShifts(street);
        if (k == NONE) {
            return count;
        }
        return k >= 0 && k < count ? cell(seen.fitting, k) : NONE;
    }

    public int telling(int street, int what) {
        if (!told.hasA(STREETS, street) || what < 0 || what > 1) {
            return NONE;
        }
        return seen.tellingHour(street, what);
    }

    // ---- questions

    public long ask() {
        int head = question.read();
        keepFault();
        if (head == NONE) {
            return NOTHING;
        }
        question.workOut();
        return question.answer(head);
    }

    // ---- images, refusals

    public int image() {
        now.draw();
        return now.pictureLength;
    }

    public int octet(int k) {
        return k >= 0 && k < now.pictureLength ? cell(now.picture, k) : NONE;
    }

    public boolean on() {
        boolean fits = now.isPicture(scan);
        if (fits) {
            now.restore(scan);
        } else {
            refused(5);
        }
        scan.length = 0;
        return fits;
    }

    public int status(int what) {
        return what >= 0 && what < refusals.length ? cell(refusals, what) : NONE;
    }

    // ---- helpers of the calls

    private int refused(int what) {
        setCell(refusals, what, cell(refusals, what) + 1);
        return NONE;
    }

    /** What town() and ask() have in common behind the text: its fault is kept, the tape goes. */
    private void keepFault() {
        latestFault = scan.fault;
        latestPlace = scan.faultPlace;
        scan.length = 0;
    }

    private void passDay() {
        now.hour += DAY_HOURS;
        int streets = told.count(STREETS);
        if (streets > 0) {
            int turned = drawn(streets);
            now.turn(turned, drawn(3) - 1);
        }
    }

    private int drawn(int m) {
        seed = (1103515245L * seed + 12345L) & 0x7fffffffL;
        return m > 0 ? (int) (seed / 64 % m) : 0;
    }

    private static boolean isBreadth(int n) {
        return n >= 1 && n <= MOST_WIDTH;
    }

    private static boolean isAsked(int hour) {
        return hour >= 0 && hour <= LAST_ASKED;
    }

    private static int cell(int[] row, int k) {
        return k >= 0 && k < row.length ? row[k] : 0;
    }

    private static void setCell(int[] row, int k, int value) {
        if (k >= 0 && k < row.length) {
            row[k] = value;
        }
    }

    private static void fill(int[] row, int value) {
        for (int k = 0; k < row.length; k++) {
            row[k] = value;
        }
    }

    private static void copyAll(int[] from, int[] to) {
        for (int k = 0; k < from.length && k < to.length; k++) {
            to[k] = from[k];
        }
    }

    /** Sums and tests as rows of steps that work on a stack: a number, or one of the marks below 0. */
    private static final class Code {
        final int[] steps = new int[TAPE];
        final int[] stack = new int[64];
        /** Widths, tides and streets passed by their numbers, for the hour that a question looks at. */
        final int[] tables = new int[3 * MOST_STREETS];
        int length;
        /** Which of the tables the steps look into, as bits. */
        int used;

        void clear() {
            length = 0;
            used = 0;
        }

        void add(int step) {
            if (length >= 0 && length < steps.length) {
                steps[length] = step;
                length++;
                used |= step <= WIDTH_OF && step >= PASSES_OF ? 1 << (WIDTH_OF - step) : 0;
            }
        }

        boolean uses(int step) {
            return (used >> (WIDTH_OF - step) & 1) == 1;
        }

        void copy(Code other) {
            length = other.length;
            used = other.used;
            for (int k = 0; k < length; k++) {
                setCell(steps, k, cell(other.steps, k));
            }
        }

        int value(int first, int end, int tide, int round, int hour) {
            int height = 0;
            for (int k = first; k < end; k++) {
                int step = cell(steps, k);
                if (step <= ADD) {
                    height--;
                    long both = combined(step, cell(stack, height - 1), cell(stack, height));
                    setCell(stack, height - 1, (int) (both > HELD ? HELD : both < -HELD ? -HELD : both));
                } else if (step == NOT) {
                    setCell(stack, height - 1, cell(stack, height - 1) == 0 ? 1 : 0);
                } else if (step <= WIDTH_OF) {
                    int which = cell(stack, height - 1);
                    boolean isThere = which >= 0 && which < MOST_STREETS;
                    int at = isThere ? (WIDTH_OF - step) * MOST_STREETS + which : NONE;
                    setCell(stack, height - 1, cell(tables, at));
                } else {
                    setCell(stack, height, plain(step, tide, round, hour));
                    height++;
                }
            }
            return cell(stack, 0);
        }

        private static int plain(int step, int tide, int round, int hour) {
            switch (step) {
                case TIDE: return tide;
                case ROUND: return round;
                case CLOCK: return hour % DAY_HOURS;
                case DAY: return hour / DAY_HOURS;
                case HOUR: return hour;
                default: return step;
            }
        }

        private static long combined(int step, int a, int b) {
            switch (step) {
                case ADD: return (long) a + b;
                case SUBTRACT: return (long) a - b;
                case TIMES: return (long) a * b;
                case OVER: return b == 0 ? 0 : Math.floorDiv(a, b);
                case LEAST: return a < b ? a : b;
                case MOST: return a > b ? a : b;
                case LESS: return a < b ? 1 : 0;
                case MORE: return a > b ? 1 : 0;
                case SAME: return a == b ? 1 : 0;
                case AND: return a != 0 && b != 0 ? 1 : 0;
                case OR: return a != 0 || b != 0 ? 1 : 0;
                default: return 0;
            }
        }
    }

    /** What a text tells: places, streets, walkers, the first hour. */
    private static final class Told {
        final int[] counts = new int[3];
        /** Five bits a letter, so that two names are alike when their numbers are. */
        final int[] names = new int[3 * MOST_STREETS];
        final int[] from = new int[MOST_STREETS];
        final int[] to = new int[MOST_STREETS];
        final int[] takes = new int[MOST_STREETS];
        final int[] rounds = new int[MOST_STREETS];
        final int[] shifts = new int[MOST_STREETS];
        final int[] sumStarts = new int[MOST_STREETS];
        final int[] sumEnds = new int[MOST_STREETS];
        final int[] broads = new int[MOST_WALKERS];
        final int[] places = new int[MOST_WALKERS];
        final int[] goals = new int[MOST_WALKERS];
        final Code sums = new Code();
        int begin;

        void clear() {
            fill(counts, 0);
            sums.clear();
            begin = 0;
        }

        void copy(Told other) {
            copyAll(other.counts, counts);
            copyAll(other.names, names);
            copyAll(other.from, from);
            copyAll(other.to, to);
            copyAll(other.takes, takes);
            copyAll(other.rounds, rounds);
            copyAll(other.shifts, shifts);
            copyAll(other.sumStarts, sumStarts);
            copyAll(other.sumEnds, sumEnds);
            copyAll(other.broads, broads);
            copyAll(other.places, places);
            copyAll(other.goals, goals);
            sums.copy(other.sums);
            begin = other.begin;
        }

        int count(int kind) {
            return cell(counts, kind);
        }

        boolean hasA(int kind, int which) {
            return kind >= PLACES && kind <= WALKERS && which >= 0 && which < count(kind);
        }

        /** Which of a kind bears the name; NONE, if none does. */
        int named(int kind, int name) {
            for (int which = 0; which < cell(counts, kind); which++) {
                if (cell(names, kind * MOST_STREETS + which) == name) {
                    return which;
                }
            }
            return NONE;
        }

        boolean knows(int name) {
            return named(PLACES, name) != NONE || named(STREETS, name) != NONE || named(WALKERS, name) != NONE;
        }

        /** The number that the newly named one has among its kind. */
        int enter(int kind, int name) {
            int which = count(kind);
            setCell(names, kind * MOST_STREETS + which, name);
            setCell(counts, kind, which + 1);
            return which;
        }

        /** The place at the other end of a street; NONE, if the street does not touch the place. */
        int beyond(int street, int place) {
            int first = cell(from, street);
            int second = cell(to, street);
            if (first == place) {
                return second;
            }
            return second == place ? first : NONE;
        }
    }

    /** The tape, and the reading of words, numbers and signs from it up to the first fault. */
    private static final class Scan {
        final int[] bytes = new int[TAPE];
        int length;
        int place;
        /** Where the latest word or number ended: the next one may not begin just there. */
        int glued;
        /** Where the latest name or number began. */
        int began;
        int fault;
        int faultPlace;

        void append(int four) {
            for (int turn = 24; turn >= 0; turn -= 8) {
                setCell(bytes, length, (four >> turn) & 255);
                length++;
            }
        }

        void start() {
            place = 0;
            glued = NONE;
            began = 0;
            fault = 0;
            faultPlace = NONE;
        }

        int byteAt(int k) {
            return k >= 0 && k < length && k < bytes.length ? bytes[k] : NONE;
        }

        private static boolean isLetter(int sign) {
            return sign >= 'a' && sign <= 'z';
        }

        private static boolean isDigit(int sign) {
            return sign >= '0' && sign <= '9';
        }

        void skip() {
            for (int k = place; k >= 0 && k < length && k < bytes.length; k++) {
                if (bytes[k] != 10 && bytes[k] != 32) {
                    return;
                }
                place = k + 1;
            }
        }

        boolean fail(int kind, int where) {
            if (fault == 0) {
                fault = kind;
                faultPlace = where;
            }
            return false;
        }

        boolean unexpected() {
            skip();
            return fail(UNEXPECTED, place);
        }

        boolean atEnd() {
            skip();
            return place >= length;
        }

        boolean atSign(int sign) {
            skip();
            return byteAt(place) == sign;
        }

        boolean takeSign(int sign) {
            skip();
            if (byteAt(place) != sign) {
                return false;
            }
            place++;
            return true;
        }

        boolean needSign(int sign) {
            return takeSign(sign) || unexpected();
        }

        boolean atWord(String word) {
            skip();
            if (place == glued || isLetter(byteAt(place + word.length()))) {
                return false;
            }
            for (int k = 0; k < word.length(); k++) {
                if (byteAt(place + k) != word.charAt(k)) {
                    return false;
                }
            }
            return true;
        }

        boolean takeWord(String word) {
            if (!atWord(word)) {
                return false;
            }
            place += word.length();
            glued = place;
            return true;
        }

        boolean atNumber() {
            skip();
            return place != glued && isDigit(byteAt(place));
        }

        /** The number that stands here, from the least to the most; NONE with a fault. */
        int number(int least, int most) {
            if (!atNumber()) {
                unexpected();
                return NONE;
            }
            began = place;
            int value = 0;
            for (int k = 0; k < 4 && isDigit(byteAt(place)); k++) {
                value = 10 * value + byteAt(place) - '0';
                place++;
            }
            glued = place;
            if (isDigit(byteAt(place))) {
                fail(UNEXPECTED, place);
                return NONE;
            }
            if (value < least || value > most) {
                fail(IMPOSSIBLE, began);
                return NONE;
            }
            return value;
        }

        /** The name that stands here, five bits a letter; NONE with a fault. */
        int name() {
            skip();
            began = place;
            if (place == glued || !isLetter(byteAt(place))) {
                unexpected();
                return NONE;
            }
            int packed = 0;
            for (int k = 0; k < MOST_LETTERS && isLetter(byteAt(place)); k++) {
                packed |= (byteAt(place) - 'a' + 1) << (5 * k);
                place++;
            }
            glued = place;
            if (isLetter(byteAt(place))) {
                fail(UNEXPECTED, place);
                return NONE;
            }
            if (isOwnWord(packed)) {
                fail(UNEXPECTED, began);
                return NONE;
            }
            return packed;
        }

        private static boolean isOwnWord(int packed) {
            int word = 0;
            int turn = 0;
            for (int k = 0; k < OWN_WORDS.length(); k++) {
                int sign = OWN_WORDS.charAt(k);
                if (sign != ' ') {
                    word |= (sign - 'a' + 1) << turn;
                    turn += 5;
                } else if (word == packed) {
                    return true;
                } else {
                    word = 0;
                    turn = 0;
                }
            }
            return false;
        }
    }

    /** Reads sums and tests into code; each level takes how many are open at once. */
    private static final class Reader {
        private final Scan scan;
        private final Code code;
        private final boolean asking;

        Reader(Scan scan, Code code, boolean asking) {
            this.scan = scan;
            this.code = code;
            this.asking = asking;
        }

        boolean readSum() {
            return sum(0);
        }

        boolean readTest() {
            return test(0);
        }

        private boolean mayOpen(int open) {
            return open < MOST_OPEN || scan.fail(TOO_DEEP, scan.place);
        }

        private boolean took(int step) {
            code.add(step);
            return true;
        }

        private boolean sum(int open) {
            if (!product(open)) {
                return false;
            }
            for (int turn = 0; turn < TAPE; turn++) {
                int step = scan.takeSign('+') ? ADD : scan.takeSign('-') ? SUBTRACT : 0;
                if (step == 0) {
                    return true;
                }
                if (!product(open)) {
                    return false;
                }
                code.add(step);
            }
            return true;
        }

        private boolean product(int open) {
            if (!part(open)) {
                return false;
            }
            for (int turn = 0; turn < TAPE; turn++) {
                int step = scan.takeSign('*') ? TIMES : scan.takeSign('/') ? OVER : 0;
                if (step == 0) {
                    return true;
                }
                if (!part(open)) {
                    return false;
                }
                code.add(step);
            }
            return true;
        }

        private boolean part(int open) {
            if (scan.atNumber()) {
                int value = scan.number(0, MOST_NUMBER);
                return value != NONE && took(value);
            }
            if (scan.atSign('(')) {
                return mayOpen(open) && scan.takeSign('(') && sum(open + 1) && scan.needSign(')');
            }
            if (scan.takeWord("min")) {
                return pair(open) && took(LEAST);
            }
            if (scan.takeWord("max")) {
                return pair(open) && took(MOST);
            }
            if (scan.takeWord("clock")) {
                return took(CLOCK);
            }
            if (scan.takeWord("day")) {
                return took(DAY);
            }
            if (asking) {
                return askedPart(open);
            }
            if (scan.takeWord("tide")) {
                return took(TIDE);
            }
            return scan.takeWord("round") ? took(ROUND) : scan.unexpected();
        }

        private boolean pair(int open) {
            if (!scan.atSign('(')) {
                return scan.unexpected();
            }
            return mayOpen(open) && scan.takeSign('(') && sum(open + 1) && scan.needSign(',')
                && sum(open + 1) && scan.needSign(')');
        }

        private boolean askedPart(int open) {
            if (scan.takeWord("hour")) {
                return took(HOUR);
            }
            if (scan.atWord("width")) {
                return mayOpen(open) && scan.takeWord("width") && part(open + 1) && took(WIDTH_OF);
            }
            if (scan.atWord("tide")) {
                return mayOpen(open) && scan.takeWord("tide") && part(open + 1) && took(TIDE_OF);
            }
            if (scan.atWord("passes")) {
                return mayOpen(open) && scan.takeWord("passes") && part(open + 1) && took(PASSES_OF);
            }
            return scan.unexpected();
        }

        private boolean test(int open) {
            if (!both(open)) {
                return false;
            }
            for (int turn = 0; turn < TAPE; turn++) {
                if (!scan.takeWord("or")) {
                    return true;
                }
                if (!both(open)) {
                    return false;
                }
                code.add(OR);
            }
            return true;
        }

        private boolean both(int open) {
            if (!fact(open)) {
                return false;
            }
            for (int turn = 0; turn < TAPE; turn++) {
                if (!scan.takeWord("and")) {
                    return true;
                }
                if (!fact(open)) {
                    return false;
                }
                code.add(AND);
            }
            return true;
        }

        private boolean fact(int open) {
            if (scan.atWord("not")) {
                return mayOpen(open) && scan.takeWord("not") && fact(open + 1) && took(NOT);
            }
            if (scan.atSign('[')) {
                return mayOpen(open) && scan.takeSign('[') && test(open + 1) && scan.needSign(']');
            }
            if (scan.takeWord("all")) {
                return took(1);
            }
            if (!sum(open)) {
                return false;
            }
            int step = scan.takeSign('<') ? LESS : scan.takeSign('>') ? MORE : scan.takeSign('=') ? SAME : 0;
            if (step == 0) {
                return scan.unexpected();
            }
            return sum(open) && took(step);
        }
    }

    /** Reads a town's text into a draft, so that a fault leaves the town as it was. */
    private static final class TownReader {
        private final Scan scan;
        private final Told draft;
        private final Reader sums;

        TownReader(Scan scan, Told draft) {
            this.scan = scan;
            this.draft = draft;
            this.sums = new Reader(scan, draft.sums, false);
        }

        /** How many statements; NONE with a fault. */
        int read() {
            scan.start();
            draft.clear();
            for (int k = 0; k <= MOST_STATEMENTS; k++) {
                if (scan.atEnd()) {
                    return k;
                }
                if (k == MOST_STATEMENTS) {
                    scan.fail(TOO_MANY, scan.place);
                    return NONE;
                }
                boolean isTold = scan.atWord("place") ? newName("place", PLACES, MOST_PLACES) != NONE
                    : scan.atWord("street") ? streetTold()
                    : scan.atWord("walker") ? walkerTold()
                    : beginTold();
                if (!isTold || !scan.needSign(';')) {
                    return NONE;
                }
            }
            return NONE;
        }

        private boolean beginTold() {
            if (!scan.takeWord("begin")) {
                return scan.unexpected();
            }
            draft.begin = scan.number(0, LAST_BEGIN);
            return draft.begin != NONE;
        }

        /** Takes a kind's word, if there may be one more of it, and its name; the newly named one's number. */
        private int newName(String word, int kind, int most) {
            if (draft.count(kind) >= most) {
                scan.fail(TOO_MANY, scan.place);
                return NONE;
            }
            int name = scan.takeWord(word) ? scan.name() : NONE;
            if (name == NONE) {
                return NONE;
            }
            if (draft.knows(name)) {
                scan.fail(MISNAMED, scan.began);
                return NONE;
            }
            return draft.enter(kind, name);
        }

        private boolean streetTold() {
            int which = newName("street", STREETS, MOST_STREETS);
            if (which == NONE
                || !placeAsked("from", NONE, draft.from, which)
                || !placeAsked("to", cell(draft.from, which), draft.to, which)
                || !numberAsked("takes", 1, 4, draft.takes, which)
                || !numberAsked("round", 1, MOST_ROUND, draft.rounds, which)
                || !numberAsked("shift", 0, MOST_ROUND - 1, draft.shifts, which)) {
                return false;
            }
            if (!scan.takeWord("wide")) {
                return scan.unexpected();
            }
            int round = cell(draft.rounds, which);
            setCell(draft.shifts, which, round > 0 ? cell(draft.shifts, which) % round : 0);
            setCell(draft.sumStarts, which, draft.sums.length);
            boolean isRead = sums.readSum();
            setCell(draft.sumEnds, which, draft.sums.length);
            return isRead;
        }

        private boolean walkerTold() {
            int which = newName("walker", WALKERS, MOST_WALKERS);
            return which != NONE
                && numberAsked("broad", 1, MOST_WIDTH, draft.broads, which)
                && placeAsked("at", NONE, draft.places, which)
                && placeAsked("to", cell(draft.places, which), draft.goals, which);
        }

        private boolean placeAsked(String word, int unlike, int[] row, int which) {
            if (!scan.takeWord(word)) {
                return scan.unexpected();
            }
            int name = scan.name();
            if (name == NONE) {
                return false;
            }
            int place = draft.named(PLACES, name);
            if (place == NONE || place == unlike) {
                return scan.fail(MISNAMED, scan.began);
            }
            setCell(row, which, place);
            return true;
        }

        private boolean numberAsked(String word, int least, int most, int[] row, int which) {
            if (!scan.takeWord(word)) {
                return scan.unexpected();
            }
            int value = scan.number(least, most);
            setCell(row, which, value);
            return value != NONE;
        }
    }

    /** What changes as hours go by, what it was ahead of the latest acts, and its images. */
    private static final class Now {
        private static final int KEPT_EACH = 1 + MOST_STREETS + 3 * MOST_WALKERS;

        private final Told told;
        final int[] shifts = new int[MOST_STREETS];
        final int[] places = new int[MOST_WALKERS];
        final int[] goals = new int[MOST_WALKERS];
        final int[] free = new int[MOST_WALKERS];
        private final int[] past = new int[MOST_ACTS * KEPT_EACH];
        final int[] picture = new int[3 + MOST_STREETS + 4 * MOST_WALKERS];
        int pictureLength;
        int hour;
        int kept;

        Now(Told told) {
            this.told = told;
        }

        void begin() {
            hour = told.begin;
            kept = 0;
            copyAll(told.shifts, shifts);
            copyAll(told.places, places);
            copyAll(told.goals, goals);
            fill(free, 0);
        }

        int setOut(int walker) {
            return Math.max(hour, cell(free, walker));
        }

        int freeWalkers() {
            int count = 0;
            for (int walker = 0; walker < told.count(WALKERS); walker++) {
                count += cell(free, walker) <= hour ? 1 : 0;
            }
            return count;
        }

        void turn(int street, int by) {
            int round = cell(told.rounds, street);
            setCell(shifts, street, round > 0 ? Math.floorMod(cell(shifts, street) + by, round) : 0);
        }

        /** The walker is where he was going, and goes to where he was. */
        void arrive(int walker, int there) {
            int left = cell(places, walker);
            setCell(places, walker, cell(goals, walker));
            setCell(goals, walker, left);
            setCell(free, walker, there);
        }

        /** Writes down what is, ahead of an act; the oldest of twenty is forgotten. */
        void keep() {
            if (kept >= MOST_ACTS) {
                for (int k = KEPT_EACH; k < past.length; k++) {
                    setCell(past, k - KEPT_EACH, cell(past, k));
                }
                kept = MOST_ACTS - 1;
            }
            int at = kept * KEPT_EACH;
            setCell(past, at, hour);
            move(shifts, at + 1, true);
            move(places, at + 1 + MOST_STREETS, true);
            move(goals, at + 1 + MOST_STREETS + MOST_WALKERS, true);
            move(free, at + 1 + MOST_STREETS + 2 * MOST_WALKERS, true);
            kept++;
        }

        void takeBack() {
            if (kept < 1) {
                return;
            }
            kept--;
            int at = kept * KEPT_EACH;
            hour = cell(past, at);
            move(shifts, at + 1, false);
            move(places, at + 1 + MOST_STREETS, false);
            move(goals, at + 1 + MOST_STREETS + MOST_WALKERS, false);
            move(free, at + 1 + MOST_STREETS + 2 * MOST_WALKERS, false);
        }

        private void move(int[] row, int at, boolean writes) {
            for (int k = 0; k < row.length; k++) {
                if (writes) {
                    setCell(past, at + k, cell(row, k));
                } else {
                    setCell(row, k, cell(past, at + k));
                }
            }
        }

        private void write(int value) {
            setCell(picture, pictureLength, value);
            pictureLength++;
        }

        private void writeHour(int hour) {
            write(hour / 256);
            write(hour % 256);
        }

        void draw() {
            pictureLength = 0;
            writeHour(hour);
            for (int street = 0; street < told.count(STREETS); street++) {
                write(cell(shifts, street));
            }
            for (int walker = 0; walker < told.count(WALKERS); walker++) {
                write(cell(places, walker));
                write(cell(goals, walker));
                writeHour(cell(free, walker));
            }
            write(check(picture, pictureLength));
        }

        private static int check(int[] row, int length) {
            int c = 163;
            for (int k = 0; k < length; k++) {
                c = (3 * c + cell(row, k)) % 251;
            }
            return c;
        }

        private static int hourAt(Scan scan, int k) {
            return scan.byteAt(k) * 256 + scan.byteAt(k + 1);
        }

        /** Whether the tape is an image of this town. */
        boolean isPicture(Scan scan) {
            int streets = told.count(STREETS);
            int walkers = told.count(WALKERS);
            int last = 2 + streets + 4 * walkers;
            if (scan.length != last + 1 || scan.byteAt(last) != check(scan.bytes, last)
                || hourAt(scan, 0) > LAST_HOUR) {
                return false;
            }
            for (int street = 0; street < streets; street++) {
                if (scan.byteAt(2 + street) >= cell(told.rounds, street)) {
                    return false;
                }
            }
            for (int walker = 0; walker < walkers; walker++) {
                if (!isWalker(scan, walker, 2 + streets + 4 * walker)) {
                    return false;
                }
            }
            return true;
        }

        private boolean isWalker(Scan scan, int walker, int k) {
            int place = scan.byteAt(k);
            int goal = scan.byteAt(k + 1);
            int first = cell(told.places, walker);
            int second = cell(told.goals, walker);
            boolean isBetween = place == first && goal == second || place == second && goal == first;
            return isBetween && hourAt(scan, k + 2) <= LAST_HOUR;
        }

        /** All is as the tape tells, which isPicture has looked at. */
        void restore(Scan scan) {
            hour = hourAt(scan, 0);
            kept = 0;
            int streets = told.count(STREETS);
            for (int street = 0; street < streets; street++) {
                setCell(shifts, street, scan.byteAt(2 + street));
            }
            for (int walker = 0; walker < told.count(WALKERS); walker++) {
                int k = 2 + streets + 4 * walker;
                setCell(places, walker, scan.byteAt(k));
                setCell(goals, walker, scan.byteAt(k + 1));
                setCell(free, walker, hourAt(scan, k + 2));
            }
        }
    }

    /** How wide streets are; a width once worked out is looked up again, since searches ask often. */
    private static final class Widths {
        private static final int SLOTS = 512;

        private final Told told;
        private final Now now;
        private final long[] known = new long[MOST_STREETS * SLOTS];
        private long towns;

        Widths(Told told, Now now) {
            this.told = told;
            this.now = now;
            this.towns = 1;
        }

        /** Another town's widths bear another number, so none of those known fits it. */
        void forget() {
            towns++;
        }

        int tideBy(int street, int shift, int hour) {
            int round = cell(told.rounds, street);
            return round > 0 ? Math.floorMod(hour + shift, round) : 0;
        }

        int tideAt(int street, int hour) {
            return tideBy(street, cell(now.shifts, street), hour);
        }

        int widthAt(int street, int hour) {
            return widthBy(street, cell(now.shifts, street), hour);
        }

        int widthBy(int street, int shift, int hour) {
            int slot = street * SLOTS + (hour & (SLOTS - 1));
            if (slot < 0 || slot >= known.length) {
                return 0;
            }
            long key = ((towns << 6) + shift << 20) + hour;
            if (known[slot] >> 7 == key) {
                return (int) (known[slot] & 127);
            }
            int sum = told.sums.value(cell(told.sumStarts, street), cell(told.sumEnds, street),
                tideBy(street, shift, hour), cell(told.rounds, street), hour);
            int width = sum < 0 ? 0 : sum > MOST_WIDTH ? MOST_WIDTH : sum;
            known[slot] = (key << 7) + width;
            return width;
        }

        int firstWide(int streets, int n) {
            for (int hour = now.hour; hour <= now.hour + FAR; hour++) {
                if (areWide(streets, n, hour)) {
                    return hour;
                }
            }
            return NONE;
        }

        private boolean areWide(int streets, int n, int hour) {
            for (int street = 0; street < told.count(STREETS); street++) {
                if ((streets >> street & 1) == 1 && widthAt(street, hour) < n) {
                    return false;
                }
            }
            return true;
        }
    }

    /** The soonest ways, and what hangs on them. */
    private static final class Ways {
        private static final int MOST_BUSY = 4 * MOST_PLACES;

        private final Told told;
        private final Now now;
        private final Widths widths;
        final int[] arrivals = new int[MOST_PLACES];
        final int[] stepStreets = new int[MOST_PLACES];
        final int[] stepHours = new int[MOST_PLACES];
        int steps;
        /** The streets that walkers ahead are in, for rows; empty otherwise. */
        private final int[] busyStreets = new int[MOST_BUSY];
        private final int[] busyHours = new int[MOST_BUSY];
        private final int[] busyBroads = new int[MOST_BUSY];
        private int busy;

        Ways(Told told, Now now, Widths widths) {
            this.told = told;
            this.now = now;
            this.widths = widths;
        }

        /** The first hour of some from which one of a breadth passes a street; NONE, if he never does. */
        int firstPass(int street, int broad, int first, int last) {
            int takes = cell(told.takes, street);
            int shift = cell(now.shifts, street);
            int run = 0;
            for (int hour = first; hour < last + takes; hour++) {
                int asked = busy == 0 ? broad : broad + load(street, hour);
                run = widths.widthBy(street, shift, hour) >= asked ? run + 1 : 0;
                if (run >= takes) {
                    return hour - takes + 1;
                }
            }
            return NONE;
        }

        int passCount(int street, int broad, int first, int last) {
            int takes = cell(told.takes, street);
            int run = 0;
            int count = 0;
            for (int hour = first; hour < last + takes; hour++) {
                run = widths.widthAt(street, hour) >= broad ? run + 1 : 0;
                count += run >= takes ? 1 : 0;
            }
            return count;
        }

        private int load(int street, int hour) {
            int all = 0;
            for (int k = 0; k < busy; k++) {
                int since = hour - cell(busyHours, k);
                if (cell(busyStreets, k) == street && since >= 0 && since < cell(told.takes, street)) {
                    all += cell(busyBroads, k);
                }
            }
            return all;
        }

        void clearBusy() {
            busy = 0;
        }

        /** The traced way's streets are taken by one of a breadth from now on. */
        void occupy(int broad) {
            for (int k = 0; k < steps && busy < MOST_BUSY; k++) {
                setCell(busyStreets, busy, cell(stepStreets, k));
                setCell(busyHours, busy, cell(stepHours, k));
                setCell(busyBroads, busy, broad);
                busy++;
            }
        }

        int soonestAt(int place) {
            int hour = cell(arrivals, place);
            return hour == NEVER ? NONE : hour;
        }

        /** Arrivals at all places. The soonest place is done with first: to come there later never helps. */
        void search(int broad, int from, int set, int without) {
            fill(arrivals, NEVER);
            setCell(arrivals, from, set);
            int done = 0;
            for (int turn = 0; turn < told.count(PLACES); turn++) {
                int place = soonestBut(done);
                if (place == NONE) {
                    return;
                }
                done |= 1 << place;
                for (int street = 0; street < told.count(STREETS); street++) {
                    int other = told.beyond(street, place);
                    if (other == NONE || street == without || (done >> other & 1) == 1) {
                        continue;
                    }
                    int takes = cell(told.takes, street);
                    int latest = Math.min(set + FAR, cell(arrivals, other) - 1);
                    int start = firstPass(street, broad, cell(arrivals, place), latest - takes);
                    if (start != NONE) {
                        setCell(arrivals, other, start + takes);
                    }
                }
            }
        }

        private int soonestBut(int done) {
            int best = NONE;
            int bestHour = NEVER;
            for (int place = 0; place < told.count(PLACES); place++) {
                if ((done >> place & 1) == 0 && cell(arrivals, place) < bestHour) {
                    best = place;
                    bestHour = cell(arrivals, place);
                }
            }
            return best;
        }

        void searchFor(int walker, int without) {
            search(cell(told.broads, walker), cell(now.places, walker), now.setOut(walker), without);
        }

        /** Writes the steps of the way that search found, from its end back; false, if there is none. */
        boolean trace(int broad, int from, int goal) {
            steps = 0;
            int place = goal;
            for (int k = 0; k < MOST_PLACES && place != from; k++) {
                int last = cell(arrivals, place);
                int ahead = NONE;
                for (int street = 0; street < told.count(STREETS) && ahead == NONE; street++) {
                    int other = told.beyond(street, place);
                    int latest = last - cell(told.takes, street);
                    if (other != NONE && last != NEVER && cell(arrivals, other) <= latest
                        && firstPass(street, broad, cell(arrivals, other), latest) == latest) {
                        ahead = other;
                        setCell(stepStreets, steps, street);
                        setCell(stepHours, steps, latest);
                    }
                }
                if (ahead == NONE) {
                    return false;
                }
                steps++;
                place = ahead;
            }
            turnSteps();
            return true;
        }

        private void turnSteps() {
            for (int k = 0; k < steps / 2; k++) {
                swap(stepStreets, k, steps - 1 - k);
                swap(stepHours, k, steps - 1 - k);
            }
        }

        private static void swap(int[] row, int a, int b) {
            int kept = cell(row, a);
            setCell(row, a, cell(row, b));
            setCell(row, b, kept);
        }

        /** A walker's arrival, with the steps of his way; NONE without. */
        int plan(int walker) {
            steps = 0;
            if (!told.hasA(WALKERS, walker)) {
                return NONE;
            }
            searchFor(walker, NONE);
            int goal = cell(now.goals, walker);
            boolean isTraced = trace(cell(told.broads, walker), cell(now.places, walker), goal);
            return isTraced ? soonestAt(goal) : NONE;
        }

        /** One of no breadth never waits: his way is the shortest by hours, and its hours those without waits. */
        int stuckAt(int walker, int what) {
            int place = cell(now.places, walker);
            search(0, place, now.setOut(walker), NONE);
            if (!trace(0, place, cell(now.goals, walker))) {
                return NONE;
            }
            for (int k = 0; k < steps; k++) {
                int street = cell(stepStreets, k);
                int entered = cell(stepHours, k);
                int hour = firstNarrow(street, cell(told.broads, walker), entered, entered + cell(told.takes, street));
                if (hour != NONE) {
                    return what == 0 ? hour : street;
                }
            }
            return NONE;
        }

        /** The first hour, ahead of the end, in which a street is narrower; NONE, if it never is. */
        private int firstNarrow(int street, int broad, int first, int end) {
            for (int hour = first; hour < end; hour++) {
                if (widths.widthAt(street, hour) < broad) {
                    return hour;
                }
            }
            return NONE;
        }

        /** Of the planned way: only its own streets can be needed, since without another one it stands. */
        int neededStreets(int walker) {
            int needed = 0;
            for (int k = 0; k < steps; k++) {
                int street = cell(stepStreets, k);
                searchFor(walker, street);
                if (cell(arrivals, cell(now.goals, walker)) == NEVER) {
                    needed |= 1 << street;
                }
            }
            return needed;
        }

        /** By the planned way. */
        int paradeHour(int walker, int n) {
            int broad = cell(told.broads, walker);
            for (int hour = now.hour; hour <= now.hour + FAR; hour++) {
                if (canParade(broad, n, hour)) {
                    return hour;
                }
            }
            return NONE;
        }

        private boolean canParade(int broad, int n, int set) {
            int hour = set;
            for (int k = 0; k < steps; k++) {
                int street = cell(stepStreets, k);
                int takes = cell(told.takes, street);
                if (firstNarrow(street, broad, hour, hour + takes + n) != NONE) {
                    return false;
                }
                hour += takes;
            }
            return true;
        }
    }

    /** Orders of walkers, and doctors. */
    private static final class Many {
        private static final int PAIRS = MOST_PLACES * MOST_PLACES;
        /** A street takes four hours at most, so that a search back needs four hours behind the one it is at. */
        private static final int ROLL = 5;

        private final Told told;
        private final Now now;
        private final Widths widths;
        private final Ways ways;
        final int[] bestOrder = new int[4];
        final int[] bestArrivals = new int[4];
        int bestLast;
        private int bestSum;
        private final int[] order = new int[4];
        private final int[] arrivals = new int[4];
        final int[] found = new int[3];
        private final int[] soonest = new int[ROLL * PAIRS];
        private final int[] runs = new int[MOST_STREETS];
        private final int[] reached = new int[MOST_PLACES * DAY_HOURS];

        Many(Told told, Now now, Widths widths, Ways ways) {
            this.told = told;
            this.now = now;
            this.widths = widths;
            this.ways = ways;
        }

        /** Goes through all orders, the first by walkers first; whether in one of them all arrive. */
        boolean findOrder(int n) {
            int codes = 1;
            for (int k = 0; k < n; k++) {
                codes *= n;
            }
            bestLast = NEVER;
            bestSum = 0;
            for (int code = 0; code < codes; code++) {
                if (isOrder(code, n) && allArrive(n)) {
                    keepBetter(n);
                }
            }
            ways.clearBusy();
            return bestLast != NEVER;
        }

        /** Writes the digits of a code as an order; whether each walker is in it. */
        private boolean isOrder(int code, int n) {
            int met = 0;
            int left = code;
            for (int k = n - 1; k >= 0; k--) {
                int walker = n > 0 ? left % n : 0;
                left = n > 0 ? left / n : 0;
                setCell(order, k, walker);
                met |= 1 << walker;
            }
            return met == (1 << n) - 1;
        }

        private boolean allArrive(int n) {
            ways.clearBusy();
            for (int k = 0; k < n; k++) {
                int walker = cell(order, k);
                int broad = cell(told.broads, walker);
                int place = cell(now.places, walker);
                ways.search(broad, place, now.setOut(walker), NONE);
                if (!ways.trace(broad, place, cell(now.goals, walker))) {
                    return false;
                }
                setCell(arrivals, walker, ways.soonestAt(cell(now.goals, walker)));
                ways.occupy(broad);
            }
            return true;
        }

        private void keepBetter(int n) {
            int last = 0;
            int sum = 0;
            for (int k = 0; k < n; k++) {
                last = Math.max(last, cell(arrivals, k));
                sum += cell(arrivals, k);
            }
            if (last < bestLast || last == bestLast && sum < bestSum) {
                bestLast = last;
                bestSum = sum;
                copyAll(order, bestOrder);
                copyAll(arrivals, bestArrivals);
            }
        }

        /** How many doctors, their places in found; NONE, when three are not enough. */
        int findDoctors(int broad, int within) {
            lookBack(broad, within);
            int places = told.count(PLACES);
            for (int a = 0; a < places; a++) {
                if (allReached(a, a, a)) {
                    return keepFound(a, a, a, 1);
                }
            }
            for (int a = 0; a < places; a++) {
                for (int b = a + 1; b < places; b++) {
                    if (allReached(a, b, b)) {
                        return keepFound(a, b, b, 2);
                    }
                }
            }
            for (int a = 0; a < places; a++) {
                for (int b = a + 1; b < places; b++) {
                    for (int c = b + 1; c < places; c++) {
                        if (allReached(a, b, c)) {
                            return keepFound(a, b, c, 3);
                        }
                    }
                }
            }
            return NONE;
        }

        private int keepFound(int a, int b, int c, int count) {
            setCell(found, 0, a);
            setCell(found, 1, b);
            setCell(found, 2, c);
            return count;
        }

        private boolean allReached(int a, int b, int c) {
            int all = (1 << told.count(PLACES)) - 1;
            for (int k = 0; k < DAY_HOURS; k++) {
                int met = cell(reached, a * DAY_HOURS + k) | cell(reached, b * DAY_HOURS + k)
                    | cell(reached, c * DAY_HOURS + k);
                if (met != all) {
                    return false;
                }
            }
            return true;
        }

        /** From the last hour back: the soonest hours from each place to each, setting out in that hour. */
        private void lookBack(int broad, int within) {
            fill(soonest, NEVER);
            fill(runs, 0);
            for (int k = DAY_HOURS - 1 + within; k >= 0; k--) {
                waitOn(k);
                for (int street = 0; street < told.count(STREETS); street++) {
                    boolean isWide = widths.widthAt(street, now.hour + k) >= broad;
                    setCell(runs, street, isWide ? cell(runs, street) + 1 : 0);
                    int takes = cell(told.takes, street);
                    if (cell(runs, street) >= takes) {
                        passOn(k, takes, cell(told.from, street), cell(told.to, street));
                        passOn(k, takes, cell(told.to, street), cell(told.from, street));
                    }
                }
                if (k < DAY_HOURS) {
                    keepReached(k, k + within);
                }
            }
        }

        private static int slot(int k, int from) {
            return k % ROLL * PAIRS + from * MOST_PLACES;
        }

        /** Whether as many as there are places stand in soonest from both slots on. */
        private boolean areIn(int first, int second) {
            int last = soonest.length - told.count(PLACES);
            return first >= 0 && first <= last && second >= 0 && second <= last;
        }

        private void waitOn(int k) {
            int places = told.count(PLACES);
            for (int from = 0; from < places; from++) {
                int at = slot(k, from);
                int behind = slot(k + 1, from);
                if (!areIn(at, behind)) {
                    return;
                }
                for (int to = 0; to < places; to++) {
                    soonest[at + to] = from == to ? k : soonest[behind + to];
                }
            }
        }

        private void passOn(int k, int takes, int from, int other) {
            int places = told.count(PLACES);
            int at = slot(k, from);
            int behind = slot(k + takes, other);
            if (!areIn(at, behind)) {
                return;
            }
            for (int to = 0; to < places; to++) {
                if (soonest[behind + to] < soonest[at + to]) {
                    soonest[at + to] = soonest[behind + to];
                }
            }
        }

        private void keepReached(int k, int latest) {
            for (int from = 0; from < told.count(PLACES); from++) {
                int met = 0;
                for (int to = 0; to < told.count(PLACES); to++) {
                    met |= cell(soonest, slot(k, from) + to) <= latest ? 1 << to : 0;
                }
                setCell(reached, from * DAY_HOURS + k, met);
            }
        }
    }

    /** Widths that were seen, and the shifts that they leave. */
    private static final class Seen {
        private final Told told;
        private final Now now;
        private final Widths widths;
        private final int[] streets = new int[MOST_SEEN];
        private final int[] hours = new int[MOST_SEEN];
        private final int[] wides = new int[MOST_SEEN];
        int count;
        final int[] fitting = new int[MOST_ROUND];
        private final int[] alike = new int[MOST_WIDTH + 1];

        Seen(Told told, Now now, Widths widths) {
            this.told = told;
            this.now = now;
            this.widths = widths;
        }

        /** Takes the tape's rows; false and nothing taken, if it has none such. */
        boolean take(Scan scan) {
            int rows = scan.length / 4;
            if (scan.length % 4 != 0 || rows < 1 || rows > MOST_SEEN) {
                return false;
            }
            for (int k = 0; k < rows; k++) {
                if (!told.hasA(STREETS, scan.byteAt(4 * k)) || scan.byteAt(4 * k + 3) > MOST_WIDTH) {
                    return false;
                }
            }
            for (int k = 0; k < rows; k++) {
                setCell(streets, k, scan.byteAt(4 * k));
                setCell(hours, k, scan.byteAt(4 * k + 1) * 256 + scan.byteAt(4 * k + 2));
                setCell(wides, k, scan.byteAt(4 * k + 3));
            }
            count = rows;
            return true;
        }

        /** How many shifts of a street fit what was seen, themselves in fitting. */
        int findShifts(int street) {
            int fit = 0;
            for (int shift = 0; shift < cell(told.rounds, street); shift++) {
                if (fits(street, shift)) {
                    setCell(fitting, fit, shift);
                    fit++;
                }
            }
            return fit;
        }

        private boolean fits(int street, int shift) {
            for (int k = 0; k < count; k++) {
                if (cell(streets, k) == street && widths.widthBy(street, shift, cell(hours, k)) != cell(wides, k)) {
                    return false;
                }
            }
            return true;
        }

        int tellingHour(int street, int what) {
            int fit = findShifts(street);
            if (fit == 0) {
                return NONE;
            }
            int best = NONE;
            int fewest = NEVER;
            for (int hour = now.hour; hour < now.hour + cell(told.rounds, street); hour++) {
                int most = mostAlike(street, hour, fit);
                if (most < fewest) {
                    best = hour;
                    fewest = most;
                }
            }
            return what == 0 ? best : fewest;
        }

        private int mostAlike(int street, int hour, int fit) {
            fill(alike, 0);
            int most = 0;
            for (int k = 0; k < fit; k++) {
                int width = widths.widthBy(street, cell(fitting, k), hour);
                setCell(alike, width, cell(alike, width) + 1);
                most = Math.max(most, cell(alike, width));
            }
            return most;
        }
    }

    /** Questions of all hours. */
    private static final class Question {
        private static final int HOURS = 201;
        private static final int FIRST = 0;
        private static final int LAST = 1;
        private static final int OFTEN = 2;
        private static final int TOTAL = 3;
        private static final int GREATEST = 4;
        private static final int SMALLEST = 5;

        private final Scan scan;
        private final Told told;
        private final Now now;
        private final Widths widths;
        private final Ways ways;
        private final Code code = new Code();
        private final Reader reader;
        private final int[] values = new int[HOURS];

        Question(Scan scan, Told told, Now now, Widths widths, Ways ways) {
            this.scan = scan;
            this.told = told;
            this.now = now;
            this.widths = widths;
            this.ways = ways;
            this.reader = new Reader(scan, code, true);
        }

        /** What the question begins with; NONE with a fault. */
        int read() {
            scan.start();
            code.clear();
            int head = head();
            if (head == NONE) {
                scan.unexpected();
                return NONE;
            }
            boolean isRead = head <= OFTEN ? reader.readTest() : reader.readSum();
            if (!isRead) {
                return NONE;
            }
            return scan.atEnd() || scan.unexpected() ? head : NONE;
        }

        private int head() {
            if (scan.takeWord("first")) {
                return FIRST;
            }
            if (scan.takeWord("last")) {
                return LAST;
            }
            if (scan.takeWord("often")) {
                return OFTEN;
            }
            if (scan.takeWord("total")) {
                return TOTAL;
            }
            if (scan.takeWord("most")) {
                return GREATEST;
            }
            return scan.takeWord("least") ? SMALLEST : NONE;
        }

        /** The values of all hours; a test that holds counts 1. */
        void workOut() {
            for (int k = 0; k < HOURS; k++) {
                fillTables(now.hour + k);
                setCell(values, k, code.value(0, code.length, 0, 0, now.hour + k));
            }
        }

        long answer(int head) {
            long all = 0;
            int most = cell(values, 0);
            int least = most;
            int first = NONE;
            int last = NONE;
            for (int k = 0; k < HOURS; k++) {
                int value = cell(values, k);
                all += value;
                most = Math.max(most, value);
                least = Math.min(least, value);
                last = value != 0 ? now.hour + k : last;
                first = value != 0 && first == NONE ? now.hour + k : first;
            }
            switch (head) {
                case FIRST: return first;
                case LAST: return last;
                case GREATEST: return most;
                case SMALLEST: return least;
                default: return all;
            }
        }

        /** Beyond those that there are the tables stay 0, as the answer is for numbers that there are not. */
        private void fillTables(int hour) {
            fill(code.tables, 0);
            if (code.uses(WIDTH_OF)) {
                for (int street = 0; street < told.count(STREETS); street++) {
                    setCell(code.tables, street, widths.widthAt(street, hour));
                }
            }
            if (code.uses(TIDE_OF)) {
                for (int street = 0; street < told.count(STREETS); street++) {
                    setCell(code.tables, MOST_STREETS + street, widths.tideAt(street, hour));
                }
            }
            if (code.uses(PASSES_OF)) {
                for (int walker = 0; walker < told.count(WALKERS); walker++) {
                    setCell(code.tables, 2 * MOST_STREETS + walker, passed(walker, hour));
                }
            }
        }

        private int passed(int walker, int hour) {
            int count = 0;
            for (int street = 0; street < told.count(STREETS); street++) {
                count += ways.firstPass(street, cell(told.broads, walker), hour, hour) != NONE ? 1 : 0;
            }
            return count;
        }
    }
}
