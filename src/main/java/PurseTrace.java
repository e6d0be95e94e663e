import java.util.Arrays;

/** Whose money is it: sums held for others, led through mixed purses line by line. */
public final class PurseTrace {
    public static final int NONE = -1;

    private static final int NOT_SO = -2;
    private static final int NOT_AMONG = -3;

    private static final int LAST_DAY = 3999;
    private static final int LAST_HOUR = 23;
    private static final int MOST_SUM = 1000000;
    private static final int LANDS = 4;
    private static final int PERSONS = 10;
    private static final int PURSES = 10;
    private static final int THINGS = 10;
    private static final int LINES = 100;
    private static final int TELLINGS = 100;
    private static final int DEBTS = 40;
    private static final int RANKS = 4;
    private static final int BARS = 40;
    private static final int WAYS = 5;
    private static final int CHOOSING = 4;

    private static final int COME = 0;
    private static final int MOVE = 1;
    private static final int SPENT = 2;
    private static final int BUY = 3;
    private static final int SELL = 4;
    private static final int MADE_GOOD = 5;

    private final Tape tape = new Tape();
    private final Purses purses = new Purses();
    private final Lines lines = new Lines();
    private final Knowing knowing = new Knowing();
    private final RuleBook book = new RuleBook();
    private final RuleReader reader = new RuleReader(tape, book);
    private final Replay replay = new Replay(purses, lines, book, knowing);
    private final Orders orders = new Orders(lines, replay);
    private final Choices choices = new Choices(purses, lines, replay);
    private final Debts debts = new Debts();
    private int today;
    private int persons;
    private int things;

    /** An empty book on DAY 0. */
    public PurseTrace() {
    }

    /** NOW is a DAY. */
    public boolean now(int day) {
        if (!isDay(day) || day < today) {
            return false;
        }
        today = day;
        return true;
    }

    /** A PERSON. */
    public int person() {
        if (persons >= PERSONS) {
            return NONE;
        }
        persons++;
        return persons - 1;
    }

    /** A PURSE of a HOLDER in a LAND. */
    public int purse(int holder, int land) {
        if (!isPerson(holder) || land < 0 || land >= LANDS) {
            return NONE;
        }
        return purses.add(holder, land);
    }

    /** A THING. */
    public int thing() {
        if (things >= THINGS) {
            return NONE;
        }
        things++;
        return things - 1;
    }

    /** A LINE: COME, SPENT or MADE GOOD. */
    public int line(int kind, int p, int other, int sum, int day, int from, int to) {
        if (kind != COME && kind != SPENT && kind != MADE_GOOD) {
            return NONE;
        }
        boolean rightOther = kind == SPENT ? other == NONE : isPerson(other);
        if (!rightOther || !isPurse(p) || !isSum(sum) || !mayDate(day, from, to)) {
            return NONE;
        }
        lines.begin(kind, p, other, sum, false);
        return lines.end(day, from, to, today);
    }

    /** A LINE: MOVE from one PURSE to another. */
    public int move(int p, int q, int sum, boolean gave, int day, int from, int to) {
        if (!isPurse(p) || !isPurse(q) || p == q || !isSum(sum) || !mayDate(day, from, to)) {
            return NONE;
        }
        lines.begin(MOVE, p, q, sum, gave);
        return lines.end(day, from, to, today);
    }

    /** A LINE: BUY or SELL. */
    public int deal(boolean sell, int p, int k, int sum, int day, int from, int to) {
        if (!isPurse(p) || !isThing(k) || !isSum(sum) || !mayDate(day, from, to)) {
            return NONE;
        }
        lines.begin(sell ? SELL : BUY, p, k, sum, false);
        return lines.end(day, from, to, today);
    }

    /** A LINE is STRUCK. */
    public boolean strike(int i) {
        if (!isLine(i) || lines.struck[i] != NONE) {
            return false;
        }
        lines.struck[i] = today;
        return true;
    }

    /** Twenty bytes come behind the tape. */
    public int feed(int a, int b, int c, int d, int e) {
        if (!tape.hasRoom()) {
            return NONE;
        }
        tape.append(a);
        tape.append(b);
        tape.append(c);
        tape.append(d);
        tape.append(e);
        return tape.size;
    }

    /** RULES of a LAND by the first n bytes of the tape. */
    public int rules(int land, int from, int to, int n) {
        if (land < 0 || land >= LANDS || !isDay(from) || !isDay(to) || to < from) {
            return NONE;
        }
        if (n < 1 || n > RuleBook.TEXT || n > tape.size || book.size >= RuleBook.RULES) {
            return NONE;
        }
        int answer = reader.read(n);
        tape.size = 0;
        if (answer != 0) {
            return answer;
        }
        return book.add(land, from, to, today);
    }

    /** PERSON a KNOWS of PERSON b from a DAY on. */
    public boolean knows(int a, int b, int day) {
        if (!isPerson(a) || !isPerson(b) || a == b || !isDay(day)) {
            return false;
        }
        return knowing.add(a, b, day, today);
    }

    /** What is a PERSON's in a PURSE AT THE END of DAY d as KNOWN on t. */
    public int left(int p, int o, int d, int t) {
        if (!isPurse(p) || !isPersonOrAll(o) || !isDay(d) || !isDay(t)) {
            return NONE;
        }
        replay.playAll(d, t);
        return replay.state.held(p, o);
    }

    /** A PERSON's SHARE in a THING AT THE END of DAY d as KNOWN on t. */
    public int share(int k, int o, int d, int t) {
        if (!isThing(k) || !isPersonOrAll(o) || !isDay(d) || !isDay(t)) {
            return NONE;
        }
        replay.playAll(d, t);
        return replay.state.shareOf(k, o);
    }

    /** What is LOST of a PERSON out of a PURSE AT THE END of DAY d as KNOWN on t. */
    public int lost(int p, int o, int d, int t) {
        if (!isPurse(p) || !isPerson(o) || !isDay(d) || !isDay(t)) {
            return NONE;
        }
        replay.playAll(d, t);
        return replay.state.losses[p * PERSONS + o];
    }

    /** PART i of a PURSE AT THE END of NOW as KNOWN now. */
    public int part(int p, int i, int what) {
        if (!isPurse(p) || i < 0 || what < 0 || what > 1) {
            return NONE;
        }
        replay.playAll(today, today);
        int at = replay.state.placeOf(p, i);
        if (at == NONE) {
            return NONE;
        }
        return what == 0 ? replay.state.whose[at] : replay.state.much[at];
    }

    /** What LINE i took that was a PERSON's, or what came that is theirs. */
    public int took(int i, int o, int t) {
        if (!isLine(i) || !isPerson(o) || !isDay(t)) {
            return NONE;
        }
        if (!replay.playThrough(i, t)) {
            return NOT_AMONG;
        }
        return replay.failed ? NOT_SO : replay.state.got[o];
    }

    /** THE WAY of LINE i as all is KNOWN on t. */
    public int way(int i, int t) {
        if (!isLine(i) || !isDay(t)) {
            return NONE;
        }
        if (!lines.takes(i) || !replay.playThrough(i, t)) {
            return NOT_AMONG;
        }
        return replay.wayTaken;
    }

    /** How many LINES FAIL as KNOWN on t. */
    public int fails(int t) {
        if (!isDay(t)) {
            return NONE;
        }
        replay.playAll(LAST_DAY, t);
        return replay.failures;
    }

    /** SURE of a PERSON in a PURSE by ORDERS of a DAY. */
    public int sure(int p, int o, int day, int what) {
        if (!isPurse(p) || !isPerson(o) || !isDay(day) || what < 0 || what > 2) {
            return NONE;
        }
        if (!orders.weigh(p, o, day, today)) {
            return NONE;
        }
        if (what == 0) {
            return orders.least;
        }
        return what == 1 ? orders.most : orders.lawful;
    }

    /** What is a PERSON's in PURSE p if THE WAY of PURSE q is w. */
    public int beside(int p, int o, int q, int w) {
        if (!isPurse(p) || !isPerson(o) || !isPurse(q) || !isWay(w)) {
            return NONE;
        }
        replay.list(today, today);
        replay.forced[q] = w;
        replay.state.clear();
        replay.play(0, replay.listed);
        return replay.state.held(p, o);
    }

    /** CHOICES of a PURSE. */
    public boolean choose(int p, int ways) {
        if (!isPurse(p) || ways < 0 || ways >= 1 << WAYS) {
            return false;
        }
        return choices.set(p, ways);
    }

    /** WAY w of PURSE p and WAY v of PURSE q BAR one another. */
    public boolean bar(int p, int w, int q, int v) {
        if (!isPurse(p) || !isWay(w) || !isPurse(q) || !isWay(v) || p == q) {
            return false;
        }
        return choices.addBar(p * WAYS + w, q * WAYS + v);
    }

    /** The WORTH of THE BEST for a PERSON. */
    public int best(int o) {
        if (!isPerson(o)) {
            return NONE;
        }
        choices.search(o, today);
        return choices.bestWorth;
    }

    /** The i-th WAY of THE BEST for a PERSON. */
    public int chosen(int o, int i) {
        if (!isPerson(o) || i < 0 || i >= choices.choosing) {
            return NONE;
        }
        choices.search(o, today);
        return choices.bestWorth == NONE ? NONE : choices.bestRow[i];
    }

    /** WORTH of a told ROW for a PERSON. */
    public int judge(int o, int row) {
        if (!isPerson(o) || row < 0 || row >= choices.rows()) {
            return NONE;
        }
        choices.prepare(today);
        choices.spellFromFirst(row);
        return choices.isLawful() ? choices.worth(o) : NOT_SO;
    }

    /** A DEBT of PERSON a to PERSON b. */
    public int debt(int a, int b, int sum, int rank) {
        if (!isPerson(a) || !isPerson(b) || a == b || !isSum(sum) || rank < 0 || rank >= RANKS) {
            return NONE;
        }
        return debts.add(a, sum, rank);
    }

    /** What of DEBT i is PAID. */
    public int paid(int i) {
        if (i < 0 || i >= debts.size) {
            return NONE;
        }
        replay.playAll(today, today);
        return debts.settle(i, replay.ownOf(debts.debtor[i]));
    }

    /** CHECK by the first 3 n numbers of the tape. */
    public int check(int n) {
        if (n < 0 || n > tape.size / Tape.THREE) {
            return NOT_SO;
        }
        replay.playAll(today, today);
        int answer = firstWrong(3 * n);
        tape.size = 0;
        return answer;
    }

    /** What was told of LINE i. */
    public int look(int i, int what) {
        if (!isLine(i)) {
            return NONE;
        }
        switch (what) {
            case 0: return lines.kind[i];
            case 1: return lines.purse[i];
            case 2: return lines.other[i];
            case 3: return lines.sum[i];
            case 4: return lines.day[i];
            case 5: return lines.from[i];
            case 6: return lines.to[i];
            case 7: return lines.told[i];
            case 8: return lines.struck[i];
            case 9: return lines.gave[i] ? 1 : 0;
            default: return NONE;
        }
    }

    /** How many there are of something. */
    public int count(int what) {
        switch (what) {
            case 0: return today;
            case 1: return persons;
            case 2: return purses.size;
            case 3: return things;
            case 4: return lines.size;
            case 5: return book.size;
            case 6: return knowing.size;
            case 7: return debts.size;
            case 8: return tape.size;
            case 9: return choices.choosing;
            case 10: return choices.bars;
            default: return book.clausesOf(what);
        }
    }

    /** Compares the tape with what is in the PURSES; the place of the first wrong number. */
    private int firstWrong(int numbers) {
        int at = 0;
        for (int p = 0; p < purses.size; p++) {
            for (int o = 0; o < persons; o++) {
                int sum = replay.state.held(p, o);
                if (sum > 0) {
                    int wrong = wrongInThree(at, p, o, sum);
                    if (at >= numbers || wrong < 3) {
                        return at >= numbers ? numbers : at + wrong;
                    }
                    at += 3;
                }
            }
        }
        return at < numbers ? at : NONE;
    }

    private int wrongInThree(int at, int p, int o, int sum) {
        if (tape.number(at) != p) {
            return 0;
        }
        if (tape.number(at + 1) != o) {
            return 1;
        }
        return tape.number(at + 2) != sum ? 2 : 3;
    }

    private boolean mayDate(int day, int from, int to) {
        boolean rightHours = from >= 0 && from <= to && to <= LAST_HOUR;
        return isDay(day) && day <= today && rightHours && lines.size < LINES;
    }

    private boolean isPerson(int o) {
        return o >= 0 && o < persons;
    }

    private boolean isPersonOrAll(int o) {
        return o == NONE || isPerson(o);
    }

    private boolean isPurse(int p) {
        return p >= 0 && p < purses.size;
    }

    private boolean isThing(int k) {
        return k >= 0 && k < things;
    }

    private boolean isLine(int i) {
        return i >= 0 && i < lines.size;
    }

    private static boolean isDay(int day) {
        return day >= 0 && day <= LAST_DAY;
    }

    private static boolean isSum(int sum) {
        return sum >= 1 && sum <= MOST_SUM;
    }

    private static boolean isWay(int w) {
        return w >= 0 && w < WAYS;
    }

    /**
     * Parts of a sum by weights, rounded down; what is left one each, by numbers, of those
     * with a weight. A sum below all weights leaves each such part below its weight, so that
     * for taking out of a PURSE these are just those of whom more is there.
     */
    private static void portion(int sum, int[] weights, int[] parts) {
        long all = 0;
        for (int i = 0; i < weights.length; i++) {
            all += weights[i];
        }
        Arrays.fill(parts, 0);
        if (all <= 0) {
            return;
        }
        int rest = sum;
        for (int i = 0; i < weights.length && i < parts.length; i++) {
            parts[i] = (int) ((long) sum * weights[i] / all);
            rest -= parts[i];
        }
        for (int i = 0; i < weights.length && i < parts.length && rest > 0; i++) {
            if (weights[i] > 0) {
                parts[i]++;
                rest--;
            }
        }
    }

    /** The bytes that were fed. */
    private static final class Tape {
        static final int ROOM = 400;
        static final int FEED = 20;
        static final int THREE = 12;

        final int[] bytes = new int[ROOM];
        int size;

        boolean hasRoom() {
            return size + FEED <= ROOM;
        }

        void append(int word) {
            for (int shift = 24; shift >= 0 && size < ROOM; shift -= 8) {
                bytes[size] = word >> shift & 255;
                size++;
            }
        }

        int byteAt(int at) {
            return at >= 0 && at < size ? bytes[at] : NONE;
        }

        /** The i-th number of four bytes; what is not on the tape counts 0. */
        int number(int i) {
            int at = 4 * i;
            if (at < 0 || at + 4 > size) {
                return 0;
            }
            return bytes[at] << 24 | bytes[at + 1] << 16 | bytes[at + 2] << 8 | bytes[at + 3];
        }
    }

    /** Whose each PURSE is, and of which LAND. */
    private static final class Purses {
        final int[] holder = new int[PURSES];
        final int[] land = new int[PURSES];
        int size;

        int add(int who, int where) {
            if (size >= PURSES) {
                return NONE;
            }
            holder[size] = who;
            land[size] = where;
            size++;
            return size - 1;
        }
    }

    /** The told LINES, and their order by DAYS, HOURS and numbers. */
    private static final class Lines {
        final int[] kind = new int[LINES];
        final int[] purse = new int[LINES];
        final int[] other = new int[LINES];
        final int[] sum = new int[LINES];
        final boolean[] gave = new boolean[LINES];
        final int[] day = new int[LINES];
        final int[] from = new int[LINES];
        final int[] to = new int[LINES];
        final int[] told = new int[LINES];
        final int[] struck = new int[LINES];
        final int[] sorted = new int[LINES];
        int size;

        /** Writes what the next LINE does; it is told when its time is written too. */
        void begin(int what, int p, int with, int much, boolean forSomething) {
            if (size < LINES) {
                kind[size] = what;
                purse[size] = p;
                other[size] = with;
                sum[size] = much;
                gave[size] = forSomething;
            }
        }

        int end(int when, int first, int last, int now) {
            if (size >= LINES) {
                return NONE;
            }
            day[size] = when;
            from[size] = first;
            to[size] = last;
            told[size] = now;
            struck[size] = NONE;
            sortIn(size);
            size++;
            return size - 1;
        }

        /** Puts a new LINE behind all that are not later; its number is the highest. */
        private void sortIn(int i) {
            int at = i;
            while (at > 0 && isLater(sorted[at - 1], i)) {
                sorted[at] = sorted[at - 1];
                at--;
            }
            sorted[at] = i;
        }

        private boolean isLater(int i, int j) {
            return day[i] > day[j] || day[i] == day[j] && from[i] > from[j];
        }

        boolean isKnown(int i, int t) {
            return told[i] <= t && (struck[i] == NONE || struck[i] > t);
        }

        boolean takes(int i) {
            return kind[i] == MOVE || kind[i] == SPENT || kind[i] == BUY;
        }
    }

    /** Who KNOWS of whom. */
    private static final class Knowing {
        final int[] who = new int[TELLINGS];
        final int[] ofWhom = new int[TELLINGS];
        final int[] since = new int[TELLINGS];
        final int[] told = new int[TELLINGS];
        int size;

        boolean add(int a, int b, int day, int now) {
            if (size >= TELLINGS) {
                return false;
            }
            who[size] = a;
            ofWhom[size] = b;
            since[size] = day;
            told[size] = now;
            size++;
            return true;
        }

        boolean knew(int a, int b, int day, int t) {
            for (int i = 0; i < size; i++) {
                if (who[i] == a && ofWhom[i] == b && since[i] <= day && told[i] <= t) {
                    return true;
                }
            }
            return false;
        }
    }

    /** RULES, each CLAUSE's condition as code for a small stack machine. */
    private static final class RuleBook {
        static final int RULES = 20;
        static final int CLAUSES = 12;
        static final int TEXT = 160;
        static final int STACK = 40;
        static final int COUNTS = 20;

        static final int NUMBER = 0;
        static final int LETTER = 1;
        static final int NOT = 2;
        static final int SKIP_IF_NOT = 3;
        static final int SKIP_IF_SO = 4;
        static final int ADD = 5;
        static final int SUBTRACT = 6;
        static final int MULTIPLY = 7;
        static final int DIVIDE = 8;
        static final int REMAINDER = 9;
        static final int LESS = 10;
        static final int MORE = 11;
        static final int EQUAL = 12;

        final int[] land = new int[RULES];
        final int[] from = new int[RULES];
        final int[] to = new int[RULES];
        final int[] told = new int[RULES];
        final int[] clauses = new int[RULES];
        final int[] letter = new int[RULES * CLAUSES];
        final int[] first = new int[RULES * CLAUSES];
        final int[] second = new int[RULES * CLAUSES];
        final int[] codeStart = new int[RULES * CLAUSES];
        final int[] codeEnd = new int[RULES * CLAUSES];
        final int[] code = new int[RULES * TEXT];
        final int[] struck = new int[RULES];
        final long[] stack = new long[STACK];
        final long[] facts = new long[RuleReader.LETTERS];
        int size;

        /** Takes up what the reader has written for the next RULES. */
        int add(int where, int firstDay, int lastDay, int now) {
            if (size >= RULES) {
                return NONE;
            }
            land[size] = where;
            from[size] = firstDay;
            to[size] = lastDay;
            told[size] = now;
            size++;
            return size - 1;
        }

        int clausesOf(int what) {
            boolean there = what >= COUNTS && what < COUNTS + size;
            return there ? clauses[what - COUNTS] : NONE;
        }

        /** THE CLAUSE of a letter in a LAND on a DAY as KNOWN on t; NONE without one. */
        int find(int sign, int where, int day, int t) {
            Arrays.fill(struck, 0);
            for (int r = size - 1; r >= 0; r--) {
                int there = isInForce(r, where, day, t) ? clauses[r] : 0;
                for (int j = 0; j < there; j++) {
                    int c = r * CLAUSES + j;
                    boolean counts = (struck[r] >> j & 1) == 0;
                    if (counts && letter[c] == 'x') {
                        strikeLower(r, c);
                    } else if (counts && letter[c] == sign && holds(c)) {
                        return c;
                    }
                }
            }
            return NONE;
        }

        private boolean isInForce(int r, int where, int day, int t) {
            return told[r] <= t && land[r] == where && from[r] <= day && day <= to[r];
        }

        private void strikeLower(int r, int c) {
            int target = first[c];
            if (target >= 0 && target < r) {
                struck[target] |= 1 << second[c];
            }
        }

        /** Whether a CLAUSE's C holds by the facts; what divides by 0 makes it not hold. */
        private boolean holds(int c) {
            int height = 0;
            for (int at = codeStart[c]; at < codeEnd[c] && height < STACK; at++) {
                int value = code[at] >> 4;
                int what = code[at] & 15;
                if (what == NUMBER || what == LETTER) {
                    stack[height] = what == NUMBER ? value : facts[value];
                    height++;
                } else if (height > 0 && what == NOT) {
                    stack[height - 1] = 1 - stack[height - 1];
                } else if (height > 0 && (what == SKIP_IF_NOT || what == SKIP_IF_SO)) {
                    boolean so = stack[height - 1] != 0;
                    if (so == (what == SKIP_IF_SO)) {
                        at = Math.max(at, value - 1);
                    } else {
                        height--;
                    }
                } else if (height > 1) {
                    height--;
                    if (stack[height] == 0 && (what == DIVIDE || what == REMAINDER)) {
                        return false;
                    }
                    stack[height - 1] = reckon(what, stack[height - 1], stack[height]);
                }
            }
            return stack[0] != 0;
        }

        private static long reckon(int what, long a, long b) {
            switch (what) {
                case ADD: return a + b;
                case SUBTRACT: return a - b;
                case MULTIPLY: return a * b;
                case DIVIDE: return b == 0 ? 0 : a / b;
                case REMAINDER: return b == 0 ? 0 : a % b;
                case LESS: return a < b ? 1 : 0;
                case MORE: return a > b ? 1 : 0;
                default: return a == b ? 1 : 0;
            }
        }
    }

    /** Reads a TEXT from the tape into the book's next free place. */
    private static final class RuleReader {
        static final int DEPTH = 6;
        static final int DIGITS = 6;
        static final int LETTERS = 8;
        static final int LAST_NUMBER = 999999;

        static final int MISPLACED = 1;
        static final int LONG_NUMBER = 2;
        static final int BAD_NUMBER = 3;
        static final int MANY_CLAUSES = 4;
        static final int DEEP = 5;

        final Tape tape;
        final RuleBook book;
        int size;
        int at;
        int fault;
        int place;
        int base;
        int used;

        RuleReader(Tape tape, RuleBook book) {
            this.tape = tape;
            this.book = book;
        }

        /** 0, or the first FAULT as it is answered. Asked only while the book has a place. */
        int read(int n) {
            int r = Math.min(book.size, RuleBook.RULES - 1);
            size = n;
            at = 0;
            fault = 0;
            place = 0;
            base = r * RuleBook.TEXT;
            used = 0;
            book.clauses[r] = 0;
            boolean more = true;
            for (int j = 0; j <= RuleBook.CLAUSES && more; j++) {
                readClause(r, j);
                more = fault == 0 && at < size;
                if (more) {
                    pass(';');
                }
            }
            return -1000 * fault - place;
        }

        private void readClause(int r, int j) {
            int sign = peek();
            if (sign != 'w' && sign != 'r' && sign != 'g' && sign != 'x') {
                fail(MISPLACED, at);
                return;
            }
            if (j >= RuleBook.CLAUSES) {
                fail(MANY_CLAUSES, at);
                return;
            }
            at++;
            int c = r * RuleBook.CLAUSES + j;
            book.letter[c] = sign;
            book.clauses[r] = j + 1;
            if (sign == 'x') {
                book.first[c] = readNumber(RuleBook.RULES - 1);
                pass('.');
                book.second[c] = readNumber(RuleBook.CLAUSES - 1);
                return;
            }
            book.first[c] = sign == 'w' ? readNumber(WAYS - 1) : 0;
            pass('(');
            book.codeStart[c] = base + used;
            readCondition(1);
            pass(')');
            book.codeEnd[c] = base + used;
        }

        /** PARTS with a | between two; depth tells how many are open around it. */
        private void readCondition(int depth) {
            readPart(depth);
            while (fault == 0 && at < size && peek() == '|') {
                at++;
                int skip = emit(RuleBook.SKIP_IF_SO, 0);
                readPart(depth);
                aim(skip, RuleBook.SKIP_IF_SO);
            }
        }

        /** PIECES with an & between two. */
        private void readPart(int depth) {
            readPiece(depth);
            while (fault == 0 && at < size && peek() == '&') {
                at++;
                int skip = emit(RuleBook.SKIP_IF_NOT, 0);
                readPiece(depth);
                aim(skip, RuleBook.SKIP_IF_NOT);
            }
        }

        private void readPiece(int depth) {
            if (fault != 0) {
                return;
            }
            int sign = peek();
            if (sign == '!') {
                if (mayOpen(depth)) {
                    readPiece(depth + 1);
                    emit(RuleBook.NOT, 0);
                }
            } else if (sign == '(') {
                if (mayOpen(depth)) {
                    readCondition(depth + 1);
                    pass(')');
                }
            } else {
                readSum(depth);
                int sort = comparison(peek());
                if (sort == NONE) {
                    fail(MISPLACED, at);
                }
                at++;
                readSum(depth);
                emit(sort, 0);
            }
        }

        /** An E: TERMS with + or - between two. */
        private void readSum(int depth) {
            readTerm(depth);
            while (fault == 0 && at < size && (peek() == '+' || peek() == '-')) {
                int sort = peek() == '+' ? RuleBook.ADD : RuleBook.SUBTRACT;
                at++;
                readTerm(depth);
                emit(sort, 0);
            }
        }

        /** FACTORS with one of * / % between two. */
        private void readTerm(int depth) {
            readFactor(depth);
            while (fault == 0 && at < size && multiplication(peek()) != NONE) {
                int sort = multiplication(peek());
                at++;
                readFactor(depth);
                emit(sort, 0);
            }
        }

        private void readFactor(int depth) {
            if (fault != 0) {
                return;
            }
            int sign = peek();
            if (sign == '[') {
                if (mayOpen(depth)) {
                    readSum(depth + 1);
                    pass(']');
                }
            } else if (isDigit(sign)) {
                emit(RuleBook.NUMBER, readNumber(LAST_NUMBER));
            } else if (fact(sign) != NONE) {
                emit(RuleBook.LETTER, fact(sign));
                at++;
            } else {
                fail(MISPLACED, at);
            }
        }

        /** A number of at most six digits; above the limit it is a FAULT at its first digit. */
        private int readNumber(int limit) {
            int start = at;
            int value = 0;
            while (fault == 0 && at < size && isDigit(peek())) {
                if (at - start >= DIGITS) {
                    fail(LONG_NUMBER, at);
                }
                value = 10 * value + peek() - '0';
                at++;
            }
            if (at == start) {
                fail(MISPLACED, at);
            }
            if (value > limit) {
                fail(BAD_NUMBER, start);
            }
            return value;
        }

        /** Steps into a ( [ or ! unless six are open already. */
        private boolean mayOpen(int depth) {
            if (depth >= DEPTH) {
                fail(DEEP, at);
                return false;
            }
            at++;
            return true;
        }

        private void pass(int sign) {
            if (peek() != sign) {
                fail(MISPLACED, at);
            }
            at++;
        }

        /** Only the first FAULT counts: what is read behind it is of no account. */
        private void fail(int number, int where) {
            if (fault == 0) {
                fault = number;
                place = where;
            }
        }

        private int peek() {
            return at < size ? tape.byteAt(at) : NONE;
        }

        private int emit(int what, int value) {
            if (used < RuleBook.TEXT) {
                book.code[base + used] = value << 4 | what;
                used++;
            }
            return used - 1;
        }

        private void aim(int skip, int what) {
            if (skip >= 0 && skip < used) {
                book.code[base + skip] = base + used << 4 | what;
            }
        }

        private static boolean isDigit(int sign) {
            return sign >= '0' && sign <= '9';
        }

        private static int comparison(int sign) {
            switch (sign) {
                case '<': return RuleBook.LESS;
                case '>': return RuleBook.MORE;
                case '=': return RuleBook.EQUAL;
                default: return NONE;
            }
        }

        private static int multiplication(int sign) {
            switch (sign) {
                case '*': return RuleBook.MULTIPLY;
                case '/': return RuleBook.DIVIDE;
                case '%': return RuleBook.REMAINDER;
                default: return NONE;
            }
        }

        /** The place of a letter's value among the facts of a LINE. */
        private static int fact(int sign) {
            switch (sign) {
                case 's': return 0;
                case 'd': return 1;
                case 'k': return 2;
                case 'p': return 3;
                case 'h': return 4;
                case 't': return 5;
                case 'o': return 6;
                case 'n': return 7;
                default: return NONE;
            }
        }
    }

    /** What lies in all PURSES and THINGS, and what is LOST, at one point of a replay. */
    private static final class State {
        /** A LINE makes at most ten PARTS more than there were, and there are 100 LINES. */
        static final int ROOM = LINES * PERSONS + PERSONS;

        /** The PARTS of all PURSES stand in one row; each PURSE's own are in their order. */
        final int[] where = new int[ROOM];
        final int[] whose = new int[ROOM];
        final int[] much = new int[ROOM];
        int size;
        final int[] last = new int[PURSES];
        final int[] shares = new int[THINGS * PERSONS];
        final int[] losses = new int[PURSES * PERSONS];
        final int[] takenWhose = new int[ROOM];
        final int[] takenMuch = new int[ROOM];
        int taken;
        final int[] got = new int[PERSONS];
        final int[] have = new int[PERSONS];
        final int[] quota = new int[PERSONS];

        void clear() {
            size = 0;
            Arrays.fill(last, NONE);
            Arrays.fill(shares, 0);
            Arrays.fill(losses, 0);
            forgetTaken();
        }

        void copyFrom(State that) {
            size = Math.min(that.size, ROOM);
            System.arraycopy(that.where, 0, where, 0, size);
            System.arraycopy(that.whose, 0, whose, 0, size);
            System.arraycopy(that.much, 0, much, 0, size);
            System.arraycopy(that.last, 0, last, 0, last.length);
            System.arraycopy(that.shares, 0, shares, 0, shares.length);
            System.arraycopy(that.losses, 0, losses, 0, losses.length);
        }

        void forgetTaken() {
            taken = 0;
            Arrays.fill(got, 0);
        }

        /** Puts a PART behind all of a PURSE. */
        void put(int p, int o, int sum) {
            if (sum <= 0) {
                return;
            }
            int at = last[p];
            if (at >= 0 && whose[at] == o) {
                much[at] += sum;
            } else if (size < ROOM) {
                where[size] = p;
                whose[size] = o;
                much[size] = sum;
                last[p] = size;
                size++;
            }
        }

        /** Puts a PART that has come from outside. */
        void receive(int p, int o, int sum) {
            put(p, o, sum);
            got[o] += sum;
        }

        /** Takes a SUM that is there out of a PURSE by a WAY. */
        void takeOut(int p, int sum, int way, int holder) {
            if (way == 1) {
                takeFromLast(p, sum);
            } else if (way == 2) {
                measure(p);
                portion(sum, have, quota);
                for (int o = 0; o < PERSONS; o++) {
                    takeOf(p, o, quota[o]);
                }
            } else if (way == 3) {
                takeOthers(p, holder, takeOf(p, holder, sum));
            } else if (way == 4) {
                takeOf(p, holder, takeOthers(p, holder, sum));
            } else {
                takeOthers(p, NONE, sum);
            }
            tidy();
        }

        private void takeFromLast(int p, int sum) {
            int rest = sum;
            for (int i = size - 1; i >= 0 && rest > 0; i--) {
                if (where[i] == p) {
                    rest = grab(i, rest);
                }
            }
        }

        /** From one PERSON's first PART on; answers what is still to be taken. */
        private int takeOf(int p, int o, int sum) {
            int rest = sum;
            for (int i = 0; i < size && rest > 0; i++) {
                if (where[i] == p && whose[i] == o) {
                    rest = grab(i, rest);
                }
            }
            return rest;
        }

        /** From the first PART on that is not one PERSON's; answers what is still to be taken. */
        private int takeOthers(int p, int o, int sum) {
            int rest = sum;
            for (int i = 0; i < size && rest > 0; i++) {
                if (where[i] == p && whose[i] != o) {
                    rest = grab(i, rest);
                }
            }
            return rest;
        }

        private int grab(int i, int sum) {
            int bit = sum < much[i] ? sum : much[i];
            much[i] -= bit;
            got[whose[i]] += bit;
            if (bit > 0 && taken < ROOM) {
                takenWhose[taken] = whose[i];
                takenMuch[taken] = bit;
                taken++;
            }
            return sum - bit;
        }

        /** Drops emptied PARTS and joins those of one PERSON that now lie side by side. */
        private void tidy() {
            int before = size;
            size = 0;
            Arrays.fill(last, NONE);
            for (int i = 0; i < before; i++) {
                put(where[i], whose[i], much[i]);
            }
        }

        /** Finds what each PERSON has in a PURSE; answers what is there in all. */
        int measure(int p) {
            Arrays.fill(have, 0);
            int all = 0;
            for (int i = 0; i < size; i++) {
                if (where[i] == p) {
                    have[whose[i]] += much[i];
                    all += much[i];
                }
            }
            return all;
        }

        /** What is a PERSON's in a PURSE; of NONE all that is in it. */
        int held(int p, int o) {
            int all = measure(p);
            return o >= 0 && o < PERSONS ? have[o] : all;
        }

        /** A PERSON's SHARE in a THING; of NONE all SHARES. */
        int shareOf(int k, int o) {
            int all = 0;
            for (int i = 0; i < PERSONS; i++) {
                if (o == NONE || o == i) {
                    all += shares[k * PERSONS + i];
                }
            }
            return all;
        }

        /** Where PART n of a PURSE stands in the row. */
        int placeOf(int p, int n) {
            int ahead = 0;
            for (int i = 0; i < size; i++) {
                if (where[i] == p) {
                    if (ahead == n) {
                        return i;
                    }
                    ahead++;
                }
            }
            return NONE;
        }
    }

    /** Leads the money through the LINES as KNOWN on a DAY. */
    private static final class Replay {
        final Purses purses;
        final Lines lines;
        final RuleBook book;
        final Knowing knowing;
        final State state = new State();
        final State kept = new State();
        final int[] order = new int[LINES];
        int listed;
        final int[] forced = new int[PURSES];
        int known;
        int wayTaken;
        boolean rises;
        boolean ends;
        boolean failed;
        int failures;
        final int[] weights = new int[PERSONS];
        final int[] gains = new int[PERSONS];

        Replay(Purses purses, Lines lines, RuleBook book, Knowing knowing) {
            this.purses = purses;
            this.lines = lines;
            this.book = book;
            this.knowing = knowing;
        }

        /** Lists THE LINES as KNOWN on t of DAYS up to d; no WAY is another one. */
        void list(int d, int t) {
            listed = 0;
            known = t;
            Arrays.fill(forced, NONE);
            for (int k = 0; k < lines.size; k++) {
                int i = lines.sorted[k];
                if (lines.isKnown(i, t) && lines.day[i] <= d) {
                    order[listed] = i;
                    listed++;
                }
            }
        }

        void playAll(int d, int t) {
            list(d, t);
            state.clear();
            play(0, listed);
        }

        /** Plays all up to a LINE, whose doings then can be asked; false: it is not among them. */
        boolean playThrough(int i, int t) {
            if (!lines.isKnown(i, t)) {
                return false;
            }
            list(LAST_DAY, t);
            state.clear();
            int end = 0;
            for (int k = 0; k < listed; k++) {
                if (order[k] == i) {
                    end = k + 1;
                }
            }
            play(0, end);
            return true;
        }

        void keep() {
            kept.copyFrom(state);
        }

        void goBack() {
            state.copyFrom(kept);
        }

        void play(int start, int end) {
            failures = 0;
            for (int k = start; k < end && k < listed; k++) {
                decide(order[k]);
                act(order[k]);
                if (failed) {
                    failures++;
                }
            }
        }

        /** Asks the RULES about a LINE, ahead of it. */
        private void decide(int i) {
            wayTaken = NONE;
            rises = false;
            ends = false;
            int p = lines.purse[i];
            int day = lines.day[i];
            if (lines.kind[i] == SELL) {
                gatherFacts(i);
                rises = book.find('r', purses.land[p], day, known) != NONE;
            } else if (lines.takes(i)) {
                gatherFacts(i);
                wayTaken = forced[p];
                if (wayTaken == NONE) {
                    int c = book.find('w', purses.land[p], day, known);
                    wayTaken = c == NONE ? 0 : book.first[c];
                }
                if (lines.kind[i] == MOVE && lines.gave[i]) {
                    int q = lines.other[i];
                    ends = book.find('g', purses.land[q], day, known) != NONE;
                }
            }
        }

        private void gatherFacts(int i) {
            int p = lines.purse[i];
            int holder = purses.holder[p];
            book.facts[0] = lines.sum[i];
            book.facts[1] = lines.day[i];
            book.facts[2] = lines.kind[i];
            book.facts[3] = p;
            book.facts[4] = holder;
            book.facts[5] = state.measure(p);
            book.facts[6] = state.have[holder];
            int some = 0;
            for (int o = 0; o < PERSONS; o++) {
                if (state.have[o] > 0) {
                    some++;
                }
            }
            book.facts[7] = some;
        }

        private void act(int i) {
            int p = lines.purse[i];
            int sum = lines.sum[i];
            state.forgetTaken();
            failed = lines.takes(i) && state.measure(p) < sum;
            if (failed) {
                return;
            }
            if (lines.takes(i)) {
                state.takeOut(p, sum, wayTaken, purses.holder[p]);
            }
            switch (lines.kind[i]) {
                case COME: state.receive(p, lines.other[i], sum); break;
                case MOVE: moveOn(i); break;
                case SPENT: spend(p); break;
                case BUY: buy(lines.other[i]); break;
                case SELL: sell(p, lines.other[i], sum); break;
                default: makeGood(p, lines.other[i], sum); break;
            }
        }

        private void moveOn(int i) {
            int q = lines.other[i];
            int taker = purses.holder[q];
            for (int j = 0; j < state.taken; j++) {
                int o = state.takenWhose[j];
                boolean over = ends && !knowing.knew(taker, o, lines.day[i], known);
                state.put(q, over ? taker : o, state.takenMuch[j]);
            }
        }

        private void spend(int p) {
            for (int o = 0; o < PERSONS; o++) {
                if (o != purses.holder[p]) {
                    state.losses[p * PERSONS + o] += state.got[o];
                }
            }
        }

        private void buy(int k) {
            for (int o = 0; o < PERSONS; o++) {
                state.shares[k * PERSONS + o] += state.got[o];
            }
        }

        private void sell(int p, int k, int sum) {
            int holder = purses.holder[p];
            int all = state.shareOf(k, NONE);
            for (int o = 0; o < PERSONS; o++) {
                weights[o] = state.shares[k * PERSONS + o];
                state.shares[k * PERSONS + o] = 0;
            }
            int others = all - weights[holder];
            if (rises && all > 0) {
                portion(sum, weights, gains);
            } else {
                weights[holder] = 0;
                portion(Math.min(sum, others), weights, gains);
                gains[holder] = Math.max(0, sum - others);
            }
            for (int o = 0; o < PERSONS; o++) {
                state.receive(p, o, gains[o]);
            }
        }

        private void makeGood(int p, int o, int sum) {
            int place = p * PERSONS + o;
            int back = Math.min(sum, state.losses[place]);
            state.losses[place] -= back;
            state.receive(p, o, back);
            state.receive(p, purses.holder[p], sum - back);
        }

        /** What is a PERSON's in their own PURSES. */
        int ownOf(int o) {
            int all = 0;
            for (int p = 0; p < purses.size; p++) {
                if (purses.holder[p] == o) {
                    all += state.held(p, o);
                }
            }
            return all;
        }

        /** What is a PERSON's in PURSES of others and in THINGS. */
        int claimOf(int o) {
            int all = 0;
            for (int p = 0; p < purses.size; p++) {
                if (purses.holder[p] != o) {
                    all += state.held(p, o);
                }
            }
            for (int k = 0; k < THINGS; k++) {
                all += state.shareOf(k, o);
            }
            return all;
        }
    }

    /** The ORDERS of a DAY, and what is SURE by them. */
    private static final class Orders {
        static final int MOST_LINES = 6;
        static final int MOST_ORDERS = 720;

        final Lines lines;
        final Replay replay;
        int start;
        int end;
        int least;
        int most;
        int lawful;

        Orders(Lines lines, Replay replay) {
            this.lines = lines;
            this.replay = replay;
        }

        /** Tries all ORDERS of a DAY; false: it has too many LINES. */
        boolean weigh(int p, int o, int day, int now) {
            replay.list(LAST_DAY, now);
            findDay(day);
            if (end - start > MOST_LINES) {
                return false;
            }
            replay.state.clear();
            replay.play(0, start);
            replay.keep();
            sortByNumber();
            lawful = 0;
            boolean more = true;
            for (int k = 0; k < MOST_ORDERS && more; k++) {
                if (isLawful()) {
                    replay.goBack();
                    replay.play(start, replay.listed);
                    note(replay.state.held(p, o));
                }
                more = goToNext();
            }
            return true;
        }

        private void note(int sum) {
            least = lawful == 0 ? sum : Math.min(least, sum);
            most = lawful == 0 ? sum : Math.max(most, sum);
            lawful++;
        }

        private void findDay(int day) {
            start = 0;
            end = 0;
            for (int k = 0; k < replay.listed; k++) {
                if (lines.day[replay.order[k]] < day) {
                    start = k + 1;
                }
                if (lines.day[replay.order[k]] <= day) {
                    end = k + 1;
                }
            }
        }

        private boolean isLawful() {
            for (int j = start; j < end; j++) {
                for (int k = j + 1; k < end; k++) {
                    if (lines.to[replay.order[k]] < lines.from[replay.order[j]]) {
                        return false;
                    }
                }
            }
            return true;
        }

        /** The least order of numbers is the first one, so that the next ones reach all. */
        private void sortByNumber() {
            for (int j = start; j < end; j++) {
                for (int k = j + 1; k < end; k++) {
                    if (replay.order[k] < replay.order[j]) {
                        swap(j, k);
                    }
                }
            }
        }

        /** The next order of the DAY's LINES by numbers; false: there is none. */
        private boolean goToNext() {
            int turn = end - 2;
            while (turn >= start && replay.order[turn] > replay.order[turn + 1]) {
                turn--;
            }
            if (turn < start) {
                return false;
            }
            int higher = end - 1;
            while (higher > turn && replay.order[higher] < replay.order[turn]) {
                higher--;
            }
            swap(turn, higher);
            int low = turn + 1;
            for (int high = end - 1; low < high; high--) {
                swap(low, high);
                low++;
            }
            return true;
        }

        private void swap(int j, int k) {
            int held = replay.order[j];
            replay.order[j] = replay.order[k];
            replay.order[k] = held;
        }
    }

    /** CHOICES of PURSES, what BARS what, and THE BEST ROW. */
    private static final class Choices {
        final Purses purses;
        final Lines lines;
        final Replay replay;
        final int[] ways = new int[PURSES];
        int choosing;
        final long[] barred = new long[PURSES * WAYS];
        int bars;
        final int[] open = new int[CHOOSING];
        final int[] row = new int[CHOOSING];
        int start;
        int bestWorth;
        final int[] bestRow = new int[CHOOSING];

        Choices(Purses purses, Lines lines, Replay replay) {
            this.purses = purses;
            this.lines = lines;
            this.replay = replay;
        }

        boolean set(int p, int bits) {
            int others = choosing - (ways[p] != 0 ? 1 : 0);
            if (bits != 0 && others >= CHOOSING) {
                return false;
            }
            ways[p] = bits;
            choosing = others + (bits != 0 ? 1 : 0);
            return true;
        }

        /** Both are a PURSE's number times five and a WAY. */
        boolean addBar(int a, int b) {
            if (isBarred(a, b) || bars >= BARS) {
                return false;
            }
            barred[a] |= 1L << b;
            barred[b] |= 1L << a;
            bars++;
            return true;
        }

        private boolean isBarred(int a, int b) {
            return (barred[a] >> b & 1) != 0;
        }

        int rows() {
            int all = 1;
            for (int j = 0; j < choosing; j++) {
                all *= WAYS;
            }
            return all;
        }

        /** Plays all LINES that no ROW can change, once for all ROWS. */
        void prepare(int now) {
            int found = 0;
            for (int p = 0; p < purses.size && found < CHOOSING; p++) {
                if (ways[p] != 0) {
                    open[found] = p;
                    found++;
                }
            }
            replay.list(now, now);
            start = 0;
            while (start < replay.listed && !isChanged(replay.order[start])) {
                start++;
            }
            replay.state.clear();
            replay.play(0, start);
            replay.keep();
        }

        private boolean isChanged(int i) {
            return lines.takes(i) && ways[lines.purse[i]] != 0;
        }

        /** Of like ROWS the least is the first that is met. */
        void search(int o, int now) {
            prepare(now);
            bestWorth = NONE;
            int all = rows();
            for (int n = 0; n < all; n++) {
                spellFromLast(n);
                if (isLawful()) {
                    int sum = worth(o);
                    if (sum > bestWorth) {
                        bestWorth = sum;
                        System.arraycopy(row, 0, bestRow, 0, CHOOSING);
                    }
                }
            }
        }

        /** A ROW by digits of 5, the first PURSE in the lowest place. */
        void spellFromFirst(int number) {
            int rest = number;
            for (int j = 0; j < choosing && j < CHOOSING; j++) {
                row[j] = rest % WAYS;
                rest /= WAYS;
            }
        }

        /** A ROW by digits of 5, the last PURSE in the lowest place: so rows come in order. */
        private void spellFromLast(int number) {
            int rest = number;
            for (int j = choosing - 1; j >= 0; j--) {
                row[j] = rest % WAYS;
                rest /= WAYS;
            }
        }

        boolean isLawful() {
            for (int j = 0; j < choosing; j++) {
                if ((ways[open[j]] >> row[j] & 1) == 0) {
                    return false;
                }
                for (int k = j + 1; k < choosing; k++) {
                    if (isBarred(open[j] * WAYS + row[j], open[k] * WAYS + row[k])) {
                        return false;
                    }
                }
            }
            return true;
        }

        int worth(int o) {
            for (int j = 0; j < choosing; j++) {
                replay.forced[open[j]] = row[j];
            }
            replay.goBack();
            replay.play(start, replay.listed);
            return replay.claimOf(o);
        }
    }

    /** Who owes how much, and of which RANK. */
    private static final class Debts {
        final int[] debtor = new int[DEBTS];
        final int[] sum = new int[DEBTS];
        final int[] rank = new int[DEBTS];
        int size;
        final int[] weights = new int[DEBTS];
        final int[] parts = new int[DEBTS];

        int add(int a, int much, int which) {
            if (size >= DEBTS) {
                return NONE;
            }
            debtor[size] = a;
            sum[size] = much;
            rank[size] = which;
            size++;
            return size - 1;
        }

        /** What of a DEBT is PAID by one who has a SUM. */
        int settle(int i, int own) {
            int rest = own;
            for (int r = 0; r <= rank[i]; r++) {
                int due = gather(debtor[i], r);
                if (due > rest) {
                    portion(rest, weights, parts);
                    return r == rank[i] ? parts[i] : 0;
                }
                rest -= due;
            }
            return sum[i];
        }

        /** Finds a PERSON's DEBTS of a RANK; answers how much they are together. */
        private int gather(int a, int r) {
            Arrays.fill(weights, 0);
            int all = 0;
            for (int i = 0; i < size; i++) {
                if (debtor[i] == a && rank[i] == r) {
                    weights[i] = sum[i];
                    all += sum[i];
                }
            }
            return all;
        }
    }
}
