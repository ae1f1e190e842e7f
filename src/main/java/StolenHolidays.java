import java.util.NoSuchElementException;

/** Holidays are stolen: almanacs, thieves and years of them, as ../shared/DOC.md promises. */
public final class StolenHolidays {
    public static final int NONE = -1;

    // What some calls answer where NONE has a meaning of its own.
    private static final int OTHER = -2;

    private static final int MOST_SIGNS = 1000;
    private static final int MOST_DAYS = 8;
    private static final int MOST_THIEVES = 4;
    private static final int MOST_LINES = 40;
    private static final int MOST_SEEN = 8;
    private static final int MOST_UNDONE = 16;
    private static final int MOST_MARKS = 4;
    private static final int TOP_GUARD = 9;
    private static final int TOP_GUILT = 9;
    private static final int TOP_PRICE = 99;
    private static final int FAR = 60;
    private static final int NEAR = 30;
    private static final int LONGEST_SPREE = 5;
    private static final int LONGEST_WATCH = 6;
    private static final int LONGEST_YEARS = 99;
    private static final int MILLION = 1000000;
    private static final int LOW_BITS = 2147483647;

    private static final int PLAIN = 0;
    private static final int SUNDAY = 1;
    private static final int WET = 2;
    private static final int FEAST = 3;

    private static final int DO_NIGHT = 0;
    private static final int DO_STEAL = 1;
    private static final int DO_SELL = 2;
    private static final int DO_SPEND = 3;
    private static final int DO_SWAP = 4;

    private final Tape tape = new Tape();
    private final Reader reader = new Reader(tape);
    private final State now = new State();
    // What is only tried is done here, so that all stays as it is.
    private final State trial = new State();
    private final Past past = new Past();
    private final Seen seen = new Seen();
    private final Gang gang = new Gang();
    private final Spree spree = new Spree();
    private final Mark[] marks = new Mark[MOST_MARKS];

    // A text is read into the draft, which changes places with what stands only if it has no FAULT.
    private Almanac book = new Almanac();
    private Almanac bookDraft = new Almanac();
    private Year year = new Year();
    private Year yearDraft = new Year();

    public StolenHolidays() {
        for (int i = 0; i < MOST_MARKS; i++) {
            marks[i] = new Mark();
        }
    }

    public int feed(long a, long b, long c) {
        tape.put(a);
        tape.put(b);
        tape.put(c);
        return tape.length;
    }

    public int almanac() {
        int fault = reader.readAlmanac(bookDraft);
        if (fault != 0) {
            return fault;
        }
        Almanac old = book;
        book = bookDraft;
        bookDraft = old;
        now.begin(book);
        past.clear();
        seen.clear();
        year.lines = 0;
        for (int i = 0; i < MOST_MARKS; i++) {
            marks[i].laid = false;
        }
        return 0;
    }

    public int year() {
        int fault = reader.readYear(yearDraft, book);
        if (fault != 0) {
            return fault;
        }
        Year old = year;
        year = yearDraft;
        yearDraft = old;
        return 0;
    }

    public int day(int day, int what) {
        if (!isDay(day)) {
            return NONE;
        }
        switch (what) {
            case 0:
                return book.kinds[day];
            case 1:
                return book.worths[day];
            case 2:
                return now.cells[State.LEFT + day];
            case 3:
                return now.cells[State.GUARD + day];
            case 4:
                return book.guards[day];
            default:
                return NONE;
        }
    }

    public int thief(int thief, int what) {
        if (!isThief(thief)) {
            return OTHER;
        }
        switch (what) {
            case 0:
                return book.skills[thief];
            case 1:
                return book.sacks[thief];
            case 2:
                return now.cells[State.MUCH + thief];
            case 3:
                return now.hasPiece(thief) ? now.cells[State.SORT + thief] : NONE;
            case 4:
                return now.hasPiece(thief) ? now.cells[State.OLD + thief] : NONE;
            case 5:
                return now.cells[State.CAUGHT + thief];
            case 6:
                return now.cells[State.GUILT + thief];
            case 7:
                return now.cells[State.COINS + thief];
            case 8:
                return now.cells[State.JOY + thief];
            default:
                return OTHER;
        }
    }

    public int steal(int thief, int day) {
        if (!isThief(thief) || !isDay(day) || !now.canTake(thief, day)) {
            return NONE;
        }
        past.keep(now);
        return now.take(book, thief, day);
    }

    public int sell(int thief) {
        if (!isThief(thief) || !now.canPart(thief)) {
            return NONE;
        }
        past.keep(now);
        return now.cashIn(book, thief);
    }

    public int spend(int thief) {
        if (!isThief(thief) || !now.canPart(thief)) {
            return NONE;
        }
        past.keep(now);
        return now.enjoy(thief);
    }

    public boolean swap(int thief, int other) {
        if (!isThief(thief) || !isThief(other) || !now.canTrade(thief, other)) {
            return false;
        }
        past.keep(now);
        now.trade(thief, other);
        return true;
    }

    public int night() {
        past.keep(now);
        now.sleep(book);
        return now.holders();
    }

    public boolean undo() {
        return past.bringBack(now);
    }

    public int judged(int what) {
        if (what < 0 || what > 2) {
            return OTHER;
        }
        trial.begin(book);
        int cannot = NONE;
        int caught = NONE;
        for (int line = 0; line < year.lines; line++) {
            int got = year.play(line, trial, book);
            if (got == NONE && cannot == NONE) {
                cannot = line;
            }
            if (got == 0 && year.doings[line] == DO_STEAL && caught == NONE) {
                caught = line;
            }
        }
        if (what == 0) {
            return cannot;
        }
        return what == 1 ? caught : trial.sumOfThieves(State.JOY);
    }

    public int can(int thief) {
        if (!isThief(thief)) {
            return NONE;
        }
        int bits = 0;
        for (int d = 0; d < book.days; d++) {
            if (now.bagged(book, thief, d) > 0) {
                bits |= 1 << d;
            }
        }
        return bits;
    }

    public int haul(int thief, int day) {
        if (!isThief(thief) || !isDay(day) || !now.canTake(thief, day)) {
            return NONE;
        }
        return now.bagged(book, thief, day);
    }

    public int price(int thief) {
        if (!isThief(thief) || !now.hasPiece(thief)) {
            return NONE;
        }
        return now.paidFor(book, thief);
    }

    public int all() {
        return now.sumOfThieves(State.MUCH);
    }

    public int rich() {
        return firstWithMost(State.COINS);
    }

    public int guilty() {
        return firstWithMost(State.GUILT);
    }

    public int later(int day, int nights) {
        if (!isDay(day) || !isWithin(nights, 0, FAR)) {
            return NONE;
        }
        return now.leftBehind(book, day, nights);
    }

    public int guards(int day, int nights) {
        if (!isDay(day) || !isWithin(nights, 0, FAR)) {
            return NONE;
        }
        return now.guardBehind(book, day, nights);
    }

    public int keeps(int thief, int nights) {
        if (!isThief(thief) || !isWithin(nights, 0, FAR)) {
            return NONE;
        }
        return now.muchBehind(thief, nights);
    }

    public int freed(int thief) {
        return isThief(thief) ? now.cells[State.CAUGHT + thief] : NONE;
    }

    public int opens(int thief, int day) {
        if (!isThief(thief) || !isDay(day)) {
            return NONE;
        }
        for (int n = 0; n <= FAR; n++) {
            if (now.isOpenBehind(book, thief, day, n)) {
                return n;
            }
        }
        return NONE;
    }

    public int whole() {
        int most = 0;
        for (int d = 0; d < book.days; d++) {
            most = Math.max(most, book.worths[d] - now.cells[State.LEFT + d]);
        }
        return most <= FAR ? most : NONE;
    }

    public int waits(int thief, int what) {
        if (!isThief(thief) || !isWithin(what, 0, 1) || !now.hasPiece(thief)) {
            return NONE;
        }
        int best = NONE;
        int when = 0;
        for (int n = 0; n <= NEAR; n++) {
            int paid = now.paidBehind(book, thief, n);
            if (paid > best) {
                best = paid;
                when = n;
            }
        }
        return what == 0 ? when : best;
    }

    public int glads(int thief, int what) {
        if (!isThief(thief) || !isWithin(what, 0, 1) || !now.hasPiece(thief)) {
            return NONE;
        }
        int best = NONE;
        int when = 0;
        for (int n = 0; n <= NEAR; n++) {
            int joy = now.joyBehind(thief, n);
            if (joy > best) {
                best = joy;
                when = n;
            }
        }
        return what == 0 ? when : best;
    }

    public int slack(int nights) {
        if (!isWithin(nights, 0, FAR)) {
            return NONE;
        }
        int answer = NONE;
        int least = TOP_GUARD + 1;
        for (int d = 0; d < book.days; d++) {
            int guard = now.guardBehind(book, d, nights);
            if (guard < least) {
                least = guard;
                answer = d;
            }
        }
        return answer;
    }

    public int gang(int what) {
        if (what != NONE && !isThief(what)) {
            return OTHER;
        }
        gang.search(now, book);
        return what == NONE ? gang.most : gang.best[what];
    }

    public int cover() {
        int skill = now.bestReadySkill(book);
        int sum = 0;
        for (int d = 0; d < book.days; d++) {
            if (now.cells[State.LEFT + d] > 0 && now.cells[State.GUARD + d] <= skill) {
                if (skill >= TOP_GUARD) {
                    return NONE;
                }
                sum += skill + 1 - now.cells[State.GUARD + d];
            }
        }
        return sum;
    }

    public int watch() {
        int least = mostWithout(NONE);
        int answer = NONE;
        for (int d = 0; d < book.days; d++) {
            int most = mostWithout(d);
            if (most < least) {
                least = most;
                answer = d;
            }
        }
        return answer;
    }

    public int spree(int thief, int nights, int what) {
        if (!isThief(thief) || !isWithin(nights, 1, LONGEST_SPREE) || !isWithin(what, 0, 1)
                || !now.isReady(thief)) {
            return OTHER;
        }
        spree.search(now, book, thief, nights);
        return what == 0 ? spree.most : spree.first;
    }

    public boolean see(int day, int nights, boolean open) {
        if (!isDay(day) || !isWithin(nights, 0, NEAR)) {
            return false;
        }
        return seen.add(day, nights, open);
    }

    public int who() {
        int bits = 0;
        for (int t = 0; t < book.thieves; t++) {
            if (seen.fits(now, book, t)) {
                bits |= 1 << t;
            }
        }
        return bits;
    }

    public int ask() {
        int suspects = who();
        int all = Integer.bitCount(suspects);
        int least = all;
        int answer = NONE;
        for (int n = 0; n <= NEAR; n++) {
            for (int d = 0; d < book.days; d++) {
                int so = Integer.bitCount(suspects & openTo(d, n));
                int greater = Math.max(so, all - so);
                if (greater < least) {
                    least = greater;
                    answer = 8 * n + d;
                }
            }
        }
        return answer;
    }

    public int chance(int thief, int day, int nights, int odds) {
        if (!isThief(thief) || !isDay(day) || !isWithin(nights, 1, LONGEST_WATCH) || !isWithin(odds, 0, 10)) {
            return NONE;
        }
        if (!now.isFreeBehind(thief, nights) || now.leftBehind(book, day, nights) <= 0) {
            return 0;
        }
        int share = MILLION;
        for (int n = 0; n < nights; n++) {
            share /= 10;
        }
        return share * weightOpen(now.cells[State.GUARD + day], book.guards[day], book.skills[thief], nights, odds);
    }

    public int rests(int lose, int tells, int not, int what) throws NoSuchElementException {
        if (!isWithin(lose, 0, 9) || !isWithin(tells, 0, 9) || !isWithin(not, 0, 9)) {
            throw new NoSuchElementException();
        }
        int found = 0;
        for (int pair = 0; pair < 4; pair++) {
            boolean first = isContent(pair >> 1, pair & 1, lose, tells, not);
            boolean other = isContent(pair & 1, pair >> 1, lose, tells, not);
            if (first && other) {
                if (found == what) {
                    return pair;
                }
                found++;
            }
        }
        if (what != NONE) {
            throw new NoSuchElementException();
        }
        return found;
    }

    public int years(int seed, int nights, int what) {
        if (!isWithin(seed, 0, 9999) || !isWithin(nights, 1, LONGEST_YEARS) || !isWithin(what, 0, 2)) {
            return NONE;
        }
        trial.copy(now);
        int taken = 0;
        int g = seed;
        for (int n = 0; n < nights; n++) {
            if (book.thieves > 0 && book.days > 0) {
                g = nextDraw(g);
                int thief = (g >> 16) % book.thieves;
                g = nextDraw(g);
                int day = (g >> 16) % book.days;
                g = nextDraw(g);
                taken += tryDrawn(thief, day, (g >> 16) % 4);
            }
            trial.sleep(book);
        }
        if (what == 0) {
            return taken;
        }
        return what == 1 ? trial.sumOfThieves(State.COINS) : trial.prisoners();
    }

    public boolean mark(int mark, boolean back) {
        if (!isWithin(mark, 0, MOST_MARKS - 1)) {
            return false;
        }
        if (!back) {
            marks[mark].lay(now, year, seen);
            return true;
        }
        if (!marks[mark].laid) {
            return false;
        }
        marks[mark].goBack(now, year, seen);
        past.clear();
        return true;
    }

    public int count(int what) {
        switch (what) {
            case 0:
                return book.days;
            case 1:
                return book.thieves;
            case 2:
                return now.cells[State.NIGHT];
            case 3:
                return leftOfAll();
            case 4:
                return now.prisoners();
            case 5:
                return now.holders();
            case 6:
                return now.sumOfThieves(State.COINS);
            case 7:
                return now.sumOfThieves(State.JOY);
            case 8:
                return year.lines;
            case 9:
                return seen.size;
            case 10:
                return past.size;
            case 11:
                return tape.length;
            default:
                return NONE;
        }
    }

    private boolean isDay(int day) {
        return day >= 0 && day < book.days;
    }

    private boolean isThief(int thief) {
        return thief >= 0 && thief < book.thieves;
    }

    private static boolean isWithin(int number, int least, int most) {
        return number >= least && number <= most;
    }

    private int leftOfAll() {
        int sum = 0;
        for (int d = 0; d < book.days; d++) {
            sum += now.cells[State.LEFT + d];
        }
        return sum;
    }

    private int firstWithMost(int row) {
        int answer = NONE;
        int most = NONE;
        for (int t = 0; t < book.thieves; t++) {
            if (now.cells[row + t] > most) {
                most = now.cells[row + t];
                answer = t;
            }
        }
        return answer;
    }

    /** What the one THIEF who could take the most would take if the barred DAY were OPEN to nobody. */
    private int mostWithout(int barred) {
        int most = 0;
        for (int t = 0; t < book.thieves; t++) {
            for (int d = 0; d < book.days; d++) {
                if (d != barred) {
                    most = Math.max(most, now.bagged(book, t, d));
                }
            }
        }
        return most;
    }

    private int openTo(int day, int nights) {
        int bits = 0;
        for (int t = 0; t < book.thieves; t++) {
            if (now.isOpenBehind(book, t, day, nights)) {
                bits |= 1 << t;
            }
        }
        return bits;
    }

    /** Of ten to the power of the nights left: how many ways of the constables leave the guard low enough. */
    private static int weightOpen(int guard, int told, int skill, int nights, int odds) {
        if (nights <= 0) {
            return skill >= guard ? 1 : 0;
        }
        int calm = State.relaxed(guard, told);
        int raised = State.relaxed(Math.min(TOP_GUARD, guard + 3), told);
        return (10 - odds) * weightOpen(calm, told, skill, nights - 1, odds)
                + odds * weightOpen(raised, told, skill, nights - 1, odds);
    }

    private static boolean isContent(int mine, int his, int lose, int tells, int not) {
        return gain(mine, his, lose, tells, not) >= gain(1 - mine, his, lose, tells, not);
    }

    private static int gain(int mine, int his, int lose, int tells, int not) {
        if (mine == 1) {
            return his == 1 ? -lose : tells;
        }
        return his == 1 ? not : 0;
    }

    private static int nextDraw(int g) {
        // The wrap of ints is modulo 2 ** 32, so the mask alone leaves it modulo 2 ** 31.
        return (g * 1103515245 + 12345) & LOW_BITS;
    }

    /** Does in the trial what was drawn, if it can be, and answers how much was taken by it. */
    private int tryDrawn(int thief, int day, int choice) {
        if (choice <= 1) {
            return trial.canTake(thief, day) ? trial.take(book, thief, day) : 0;
        }
        if (trial.canPart(thief)) {
            if (choice == 2) {
                trial.cashIn(book, thief);
            } else {
                trial.enjoy(thief);
            }
        }
        return 0;
    }

    /** The signs that came, and the token of them that is looked at. */
    private static final class Tape {
        // Kinds of tokens; those of one sign have that sign as their kind.
        static final int NO_TOKEN = 0;
        static final int WORD = 1;
        static final int NUMBER = 2;
        static final int END = 3;

        // The keys: the numbers of the RESERVED WORDS. What is done and the KINDS stand in the order of their own numbers.
        static final int DAY = 0;
        static final int THIEF = 1;
        static final int PAYS = 2;
        static final int WORTH = 3;
        static final int GUARD = 4;
        static final int SKILL = 5;
        static final int SACK = 6;
        static final int FIRST_DOING = 7;
        static final int FIRST_KIND = 12;
        static final int NOT = 16;
        static final int AND = 17;
        static final int OR = 18;

        // Each with a blank behind it.
        private static final String RESERVED =
                "day thief pays worth guard skill sack night steal sell spend swap plain sunday wet feast not and or ";
        private static final String FACTS = "much old sort date ";
        private static final String SIGNS = "()<=+-*;";
        private static final int LONGEST_WORD = 8;
        private static final int LONGEST_NUMBER = 4;

        private final byte[] signs = new byte[MOST_SIGNS];
        int length;
        int kind;
        int place;
        private int behind;
        // Which of the RESERVED WORDS the token is, and which of the FACTS; NONE: none of them.
        int key;
        int fact;
        // The letters of a WORD as digits to the base 27: unlike WORDS have unlike ones.
        long word;
        int number;

        void put(long bytes) {
            for (int shift = 56; shift >= 0; shift -= 8) {
                int sign = (int) (bytes >>> shift) & 255;
                boolean fits = sign == 10 || sign >= 32 && sign <= 126;
                if (fits && length < MOST_SIGNS) {
                    signs[length] = (byte) sign;
                    length++;
                }
            }
        }

        void clear() {
            length = 0;
        }

        void rewind() {
            behind = 0;
            step();
        }

        void step() {
            place = behind;
            while (place < length && (signs[place] == 10 || signs[place] == 32)) {
                place++;
            }
            int letters = signsWithin('a', 'z');
            int digits = signsWithin('0', '9');
            if (letters > 0) {
                readWord(letters);
            } else if (digits > 0) {
                readNumber(digits);
            } else {
                readSign();
            }
            boolean isWord = kind == WORD;
            key = isWord ? numberAmong(RESERVED) : NONE;
            fact = isWord ? numberAmong(FACTS) : NONE;
        }

        /** How many signs from the place on are none but these. */
        private int signsWithin(int least, int most) {
            int end = place;
            while (end < length && signs[end] >= least && signs[end] <= most) {
                end++;
            }
            return end - place;
        }

        private void readWord(int letters) {
            behind = place + letters;
            if (letters > LONGEST_WORD) {
                kind = NO_TOKEN;
                return;
            }
            kind = WORD;
            word = 0;
            for (int i = place; i < behind; i++) {
                word = word * 27 + (signs[i] - 'a' + 1);
            }
        }

        private void readNumber(int digits) {
            behind = place + digits;
            if (digits > LONGEST_NUMBER) {
                kind = NO_TOKEN;
                return;
            }
            kind = NUMBER;
            number = 0;
            for (int i = place; i < behind; i++) {
                number = number * 10 + (signs[i] - '0');
            }
        }

        private void readSign() {
            if (place >= length) {
                behind = place;
                kind = END;
                return;
            }
            behind = place + 1;
            kind = SIGNS.indexOf((char) signs[place]) >= 0 ? signs[place] : NO_TOKEN;
        }

        private int numberAmong(String words) {
            int at = 0;
            long other = 0;
            for (int i = 0; i < words.length(); i++) {
                char sign = words.charAt(i);
                if (sign != ' ') {
                    other = other * 27 + (sign - 'a' + 1);
                } else if (other == word) {
                    return at;
                } else {
                    at++;
                    other = 0;
                }
            }
            return NONE;
        }

        boolean isName() {
            return kind == WORD && key == NONE;
        }
    }

    /** What fences pay: the E of pays, its operations behind what they join. */
    private static final class Law {
        // What is 0 or more stands for itself, a NUMBER; the facts go down in the order of Tape.FACTS.
        static final int MUCH = -1;
        private static final int OLD = -2;
        private static final int SORT = -3;
        private static final int DATE = -4;
        static final int NOT = -5;
        static final int AND = -6;
        static final int OR = -7;
        static final int LESS = -8;
        static final int EQUAL = -9;
        static final int PLUS = -10;
        static final int MINUS = -11;
        static final int TIMES = -12;

        // Four values at most wait on each of the five levels that the language allows.
        private static final int DEEPEST = 32;

        private final int[] code = new int[MOST_SIGNS];
        private final int[] stack = new int[DEEPEST];
        private int length;

        void clear() {
            length = 0;
        }

        void put(int operation) {
            if (length < MOST_SIGNS) {
                code[length] = operation;
                length++;
            }
        }

        int priceOf(int much, int old, int sort, int date) {
            int top = 0;
            for (int i = 0; i < length; i++) {
                int operation = code[i];
                if (operation >= DATE) {
                    if (top < DEEPEST) {
                        stack[top] = operation >= 0 ? operation : fact(operation, much, old, sort, date);
                        top++;
                    }
                } else if (operation == NOT) {
                    if (top > 0) {
                        stack[top - 1] = stack[top - 1] == 0 ? 1 : 0;
                    }
                } else if (top > 1) {
                    top--;
                    stack[top - 1] = join(operation, stack[top - 1], stack[top]);
                }
            }
            return top > 0 ? Math.max(0, Math.min(TOP_PRICE, stack[top - 1])) : 0;
        }

        private static int fact(int operation, int much, int old, int sort, int date) {
            switch (operation) {
                case MUCH:
                    return much;
                case OLD:
                    return old;
                case SORT:
                    return sort;
                default:
                    return date;
            }
        }

        private static int join(int operation, int a, int b) {
            switch (operation) {
                case AND:
                    return a != 0 && b != 0 ? 1 : 0;
                case OR:
                    return a != 0 || b != 0 ? 1 : 0;
                case LESS:
                    return a < b ? 1 : 0;
                case EQUAL:
                    return a == b ? 1 : 0;
                case PLUS:
                    return a + b;
                case MINUS:
                    return a - b;
                default:
                    return a * b;
            }
        }
    }

    /** What an ALMANAC tells. */
    private static final class Almanac {
        int days;
        int thieves;
        boolean lawTold;
        final long[] dayNames = new long[MOST_DAYS];
        final int[] kinds = new int[MOST_DAYS];
        final int[] worths = new int[MOST_DAYS];
        final int[] guards = new int[MOST_DAYS];
        final long[] thiefNames = new long[MOST_THIEVES];
        final int[] skills = new int[MOST_THIEVES];
        final int[] sacks = new int[MOST_THIEVES];
        final Law law = new Law();

        void clear() {
            days = 0;
            thieves = 0;
            lawTold = false;
            law.clear();
            law.put(Law.MUCH);
        }

        int dayNamed(long name) {
            for (int d = 0; d < days; d++) {
                if (dayNames[d] == name) {
                    return d;
                }
            }
            return NONE;
        }

        int thiefNamed(long name) {
            for (int t = 0; t < thieves; t++) {
                if (thiefNames[t] == name) {
                    return t;
                }
            }
            return NONE;
        }
    }

    /** The lines of a YEAR: what is done, by whom, and from which DAY or with whom. */
    private static final class Year {
        int lines;
        final int[] doings = new int[MOST_LINES];
        final int[] firsts = new int[MOST_LINES];
        final int[] seconds = new int[MOST_LINES];

        void add(int doing, int first, int second) {
            if (lines < MOST_LINES) {
                doings[lines] = doing;
                firsts[lines] = first;
                seconds[lines] = second;
                lines++;
            }
        }

        void copy(Year other) {
            lines = other.lines;
            System.arraycopy(other.doings, 0, doings, 0, MOST_LINES);
            System.arraycopy(other.firsts, 0, firsts, 0, MOST_LINES);
            System.arraycopy(other.seconds, 0, seconds, 0, MOST_LINES);
        }

        /** NONE: the line can't be; 0 of a STEAL: the THIEF is CAUGHT. */
        int play(int line, State state, Almanac book) {
            int first = firsts[line];
            int second = seconds[line];
            switch (doings[line]) {
                case DO_STEAL:
                    return state.canTake(first, second) ? state.take(book, first, second) : NONE;
                case DO_SELL:
                    return state.canPart(first) ? state.cashIn(book, first) : NONE;
                case DO_SPEND:
                    return state.canPart(first) ? state.enjoy(first) : NONE;
                case DO_SWAP:
                    if (!state.canTrade(first, second)) {
                        return NONE;
                    }
                    state.trade(first, second);
                    return 0;
                default:
                    state.sleep(book);
                    return 0;
            }
        }
    }

    /** Reads the TAPE from the left, a token ahead, up to the first one that is wrong. */
    private static final class Reader {
        private static final int WRONG = 1;
        private static final int UNKNOWN = 2;
        private static final int AGAIN = 3;
        private static final int OUTSIDE = 4;
        private static final int TOO_MANY = 5;
        private static final int DEEPEST_PART = 5;
        // What an E is joined of, the widest first; between SUM and PART lies the PRODUCT.
        private static final int LEVEL_E = 0;
        private static final int LEVEL_TEST = 1;
        private static final int LEVEL_SUM = 2;
        private static final int LEVEL_PART = 4;
        private static final int NO_OPERATION = 0;

        private final Tape tape;
        private int fault;
        // What the last NUMBER or NAME that was taken stands for.
        private int taken;

        Reader(Tape tape) {
            this.tape = tape;
        }

        int readAlmanac(Almanac draft) {
            draft.clear();
            fault = 0;
            tape.rewind();
            boolean good = true;
            for (int i = 0; i < MOST_SIGNS && good && tape.kind != Tape.END; i++) {
                switch (tape.key) {
                    case Tape.DAY:
                        good = readDay(draft);
                        break;
                    case Tape.THIEF:
                        good = readThief(draft);
                        break;
                    case Tape.PAYS:
                        good = readPays(draft);
                        break;
                    default:
                        good = refuse(WRONG);
                        break;
                }
            }
            tape.clear();
            return fault;
        }

        int readYear(Year draft, Almanac book) {
            draft.lines = 0;
            fault = 0;
            tape.rewind();
            boolean good = true;
            for (int i = 0; i < MOST_SIGNS && good && tape.kind != Tape.END; i++) {
                good = readLine(draft, book);
            }
            tape.clear();
            return fault;
        }

        private boolean readDay(Almanac draft) {
            int d = draft.days;
            if (d >= MOST_DAYS) {
                return refuse(TOO_MANY);
            }
            tape.step();
            if (!isNewName(draft)) {
                return false;
            }
            draft.dayNames[d] = tape.word;
            tape.step();
            int kind = tape.key - Tape.FIRST_KIND;
            if (!isWithin(kind, PLAIN, FEAST)) {
                return refuse(WRONG);
            }
            draft.kinds[d] = kind;
            tape.step();
            if (!takeNumber(Tape.WORTH, 1, 24)) {
                return false;
            }
            draft.worths[d] = taken;
            if (!takeNumber(Tape.GUARD, 0, TOP_GUARD)) {
                return false;
            }
            draft.guards[d] = taken;
            draft.days++;
            return takeSign(';');
        }

        private boolean readThief(Almanac draft) {
            int t = draft.thieves;
            if (t >= MOST_THIEVES) {
                return refuse(TOO_MANY);
            }
            tape.step();
            if (!isNewName(draft)) {
                return false;
            }
            draft.thiefNames[t] = tape.word;
            tape.step();
            if (!takeNumber(Tape.SKILL, 0, 9)) {
                return false;
            }
            draft.skills[t] = taken;
            if (!takeNumber(Tape.SACK, 1, 12)) {
                return false;
            }
            draft.sacks[t] = taken;
            draft.thieves++;
            return takeSign(';');
        }

        private boolean readPays(Almanac draft) {
            if (draft.lawTold) {
                return refuse(AGAIN);
            }
            draft.lawTold = true;
            draft.law.clear();
            tape.step();
            return readJoined(draft.law, LEVEL_E, 0) && takeSign(';');
        }

        /** An E, TEST, SUM, PRODUCT or PART, by its level. The depth: how many of not and ( ) it lies within. */
        private boolean readJoined(Law law, int level, int depth) {
            if (level >= LEVEL_PART) {
                return readPart(law, depth);
            }
            boolean good = readJoined(law, level + 1, depth);
            int most = level == LEVEL_TEST ? 1 : MOST_SIGNS;
            int operation = operationTold(level);
            for (int i = 0; i < most && good && operation != NO_OPERATION; i++) {
                tape.step();
                good = readJoined(law, level + 1, depth);
                law.put(operation);
                operation = operationTold(level);
            }
            return good;
        }

        /** What the token does with the two parts of this level that it stands between. */
        private int operationTold(int level) {
            switch (level) {
                case LEVEL_E:
                    if (tape.key == Tape.AND) {
                        return Law.AND;
                    }
                    return tape.key == Tape.OR ? Law.OR : NO_OPERATION;
                case LEVEL_TEST:
                    if (tape.kind == '<') {
                        return Law.LESS;
                    }
                    return tape.kind == '=' ? Law.EQUAL : NO_OPERATION;
                case LEVEL_SUM:
                    if (tape.kind == '+') {
                        return Law.PLUS;
                    }
                    return tape.kind == '-' ? Law.MINUS : NO_OPERATION;
                default:
                    return tape.kind == '*' ? Law.TIMES : NO_OPERATION;
            }
        }

        private boolean readPart(Law law, int depth) {
            boolean isNot = tape.key == Tape.NOT;
            boolean isNumber = tape.kind == Tape.NUMBER;
            boolean isBracket = tape.kind == '(';
            boolean isFact = tape.fact != NONE;
            if (!isNot && !isNumber && !isBracket && !isFact) {
                return refuse(WRONG);
            }
            if (depth >= DEEPEST_PART) {
                return refuse(TOO_MANY);
            }
            if (isNumber) {
                law.put(tape.number);
            } else if (isFact) {
                law.put(Law.MUCH - tape.fact);
            }
            tape.step();
            if (isNot) {
                boolean good = readPart(law, depth + 1);
                law.put(Law.NOT);
                return good;
            }
            return !isBracket || readJoined(law, LEVEL_E, depth + 1) && takeSign(')');
        }

        private boolean readLine(Year draft, Almanac book) {
            int doing = tape.key - Tape.FIRST_DOING;
            if (!isWithin(doing, DO_NIGHT, DO_SWAP)) {
                return refuse(WRONG);
            }
            if (draft.lines >= MOST_LINES) {
                return refuse(TOO_MANY);
            }
            tape.step();
            int first = NONE;
            int second = NONE;
            if (doing != DO_NIGHT) {
                if (!takeThief(book, NONE)) {
                    return false;
                }
                first = taken;
            }
            if (doing == DO_STEAL || doing == DO_SWAP) {
                boolean good = doing == DO_STEAL ? takeDay(book) : takeThief(book, first);
                if (!good) {
                    return false;
                }
                second = taken;
            }
            draft.add(doing, first, second);
            return takeSign(';');
        }

        /** Another THIEF than the first one, where there is one. */
        private boolean takeThief(Almanac book, int first) {
            if (!tape.isName()) {
                return refuse(WRONG);
            }
            taken = book.thiefNamed(tape.word);
            if (taken == NONE) {
                return refuse(UNKNOWN);
            }
            if (taken == first) {
                return refuse(AGAIN);
            }
            tape.step();
            return true;
        }

        private boolean takeDay(Almanac book) {
            if (!tape.isName()) {
                return refuse(WRONG);
            }
            taken = book.dayNamed(tape.word);
            if (taken == NONE) {
                return refuse(UNKNOWN);
            }
            tape.step();
            return true;
        }

        private boolean isNewName(Almanac draft) {
            if (!tape.isName()) {
                return refuse(WRONG);
            }
            boolean told = draft.dayNamed(tape.word) != NONE || draft.thiefNamed(tape.word) != NONE;
            return !told || refuse(AGAIN);
        }

        /** The NUMBER behind the key. */
        private boolean takeNumber(int key, int least, int most) {
            if (tape.key != key) {
                return refuse(WRONG);
            }
            tape.step();
            if (tape.kind != Tape.NUMBER) {
                return refuse(WRONG);
            }
            if (!isWithin(tape.number, least, most)) {
                return refuse(OUTSIDE);
            }
            taken = tape.number;
            tape.step();
            return true;
        }

        private boolean takeSign(int sign) {
            if (tape.kind != sign) {
                return refuse(WRONG);
            }
            tape.step();
            return true;
        }

        private boolean refuse(int kind) {
            fault = kind + 16 * tape.place;
            return false;
        }
    }

    /** How it is: the night, the DAYS and the THIEVES, in one row so that it is held and brought back at once. */
    private static final class State {
        static final int LEFT = 0;
        static final int GUARD = LEFT + MOST_DAYS;
        static final int MUCH = GUARD + MOST_DAYS;
        static final int SORT = MUCH + MOST_THIEVES;
        static final int OLD = SORT + MOST_THIEVES;
        static final int CAUGHT = OLD + MOST_THIEVES;
        static final int GUILT = CAUGHT + MOST_THIEVES;
        static final int COINS = GUILT + MOST_THIEVES;
        static final int JOY = COINS + MOST_THIEVES;
        static final int NIGHT = JOY + MOST_THIEVES;
        static final int SIZE = NIGHT + 1;

        final int[] cells = new int[SIZE];

        void copy(State other) {
            System.arraycopy(other.cells, 0, cells, 0, SIZE);
        }

        void begin(Almanac book) {
            for (int i = 0; i < SIZE; i++) {
                cells[i] = 0;
            }
            for (int d = 0; d < book.days; d++) {
                cells[LEFT + d] = book.worths[d];
                cells[GUARD + d] = book.guards[d];
            }
        }

        boolean hasPiece(int thief) {
            return cells[MUCH + thief] > 0;
        }

        /** They could STEAL, if there is anything. */
        boolean isReady(int thief) {
            return cells[CAUGHT + thief] == 0 && !hasPiece(thief);
        }

        boolean canTake(int thief, int day) {
            return isReady(thief) && cells[LEFT + day] > 0;
        }

        /** They could SELL or SPEND. */
        boolean canPart(int thief) {
            return cells[CAUGHT + thief] == 0 && hasPiece(thief);
        }

        boolean canTrade(int thief, int other) {
            return thief != other && canPart(thief) && canPart(other);
        }

        /** How much they would take, 0 if that can't be. */
        int bagged(Almanac book, int thief, int day) {
            if (!canTake(thief, day) || book.skills[thief] < cells[GUARD + day]) {
                return 0;
            }
            return Math.min(book.sacks[thief], cells[LEFT + day]);
        }

        /** STEAL, which can be: how much, 0 if they are CAUGHT. */
        int take(Almanac book, int thief, int day) {
            int much = bagged(book, thief, day);
            int guard = cells[GUARD + day];
            if (much > 0) {
                cells[MUCH + thief] = much;
                cells[SORT + thief] = book.kinds[day];
                cells[OLD + thief] = 0;
                cells[LEFT + day] -= much;
                cells[GUARD + day] = Math.min(TOP_GUARD, guard + 2);
            } else {
                cells[CAUGHT + thief] = guard - book.skills[thief];
                cells[GUARD + day] = Math.min(TOP_GUARD, guard + 1);
            }
            return much;
        }

        /** SELL, which can be. */
        int cashIn(Almanac book, int thief) {
            int paid = paidFor(book, thief);
            cells[COINS + thief] += paid;
            cells[MUCH + thief] = 0;
            return paid;
        }

        /** SPEND, which can be. */
        int enjoy(int thief) {
            int joy = Math.max(0, cells[MUCH + thief] - cells[GUILT + thief]);
            cells[JOY + thief] += joy;
            cells[GUILT + thief] = 0;
            cells[MUCH + thief] = 0;
            return joy;
        }

        /** SWAP, which can be. */
        void trade(int thief, int other) {
            exchange(MUCH + thief, MUCH + other);
            exchange(SORT + thief, SORT + other);
            exchange(OLD + thief, OLD + other);
        }

        private void exchange(int a, int b) {
            int kept = cells[a];
            cells[a] = cells[b];
            cells[b] = kept;
        }

        /** NIGHT. */
        void sleep(Almanac book) {
            for (int t = 0; t < book.thieves; t++) {
                if (hasPiece(t)) {
                    cells[GUILT + t] = guiltBehind(t, 1);
                    cells[MUCH + t] = muchBehind(t, 1);
                    cells[OLD + t]++;
                }
                cells[CAUGHT + t] = Math.max(0, cells[CAUGHT + t] - 1);
            }
            for (int d = 0; d < book.days; d++) {
                cells[LEFT + d] = leftBehind(book, d, 1);
                cells[GUARD + d] = guardBehind(book, d, 1);
            }
            cells[NIGHT]++;
        }

        int leftBehind(Almanac book, int day, int nights) {
            return Math.min(book.worths[day], cells[LEFT + day] + nights);
        }

        int guardBehind(Almanac book, int day, int nights) {
            return Math.max(book.guards[day], cells[GUARD + day] - nights);
        }

        static int relaxed(int guard, int told) {
            return guard > told ? guard - 1 : guard;
        }

        boolean isFreeBehind(int thief, int nights) {
            return cells[CAUGHT + thief] <= nights;
        }

        boolean isOpenBehind(Almanac book, int thief, int day, int nights) {
            return isFreeBehind(thief, nights)
                    && leftBehind(book, day, nights) > 0
                    && book.skills[thief] >= guardBehind(book, day, nights);
        }

        int muchBehind(int thief, int nights) {
            int much = cells[MUCH + thief];
            int old = cells[OLD + thief];
            for (int n = 0; n < nights && much > 0; n++) {
                old++;
                much = spoiled(cells[SORT + thief], much, old);
            }
            return much;
        }

        /** How much a PIECE is once it has become so old. */
        private static int spoiled(int sort, int much, int old) {
            switch (sort) {
                case PLAIN:
                    return old > 3 ? much - 1 : much;
                case WET:
                    return much / 2;
                case FEAST:
                    return old >= 4 ? 0 : much;
                default:
                    return much;
            }
        }

        private int guiltBehind(int thief, int nights) {
            int guilt = cells[GUILT + thief];
            return cells[SORT + thief] == SUNDAY ? Math.min(TOP_GUILT, guilt + nights) : guilt;
        }

        int joyBehind(int thief, int nights) {
            return Math.max(0, muchBehind(thief, nights) - guiltBehind(thief, nights));
        }

        int paidFor(Almanac book, int thief) {
            return paidBehind(book, thief, 0);
        }

        int paidBehind(Almanac book, int thief, int nights) {
            int much = muchBehind(thief, nights);
            if (much <= 0) {
                return 0;
            }
            return book.law.priceOf(much, cells[OLD + thief] + nights, cells[SORT + thief], cells[NIGHT] + nights);
        }

        int bestReadySkill(Almanac book) {
            int best = NONE;
            for (int t = 0; t < book.thieves; t++) {
                if (isReady(t)) {
                    best = Math.max(best, book.skills[t]);
                }
            }
            return best;
        }

        int sumOfThieves(int row) {
            int sum = 0;
            for (int t = 0; t < MOST_THIEVES; t++) {
                sum += cells[row + t];
            }
            return sum;
        }

        int holders() {
            return bitsOf(MUCH);
        }

        int prisoners() {
            return bitsOf(CAUGHT);
        }

        private int bitsOf(int row) {
            int bits = 0;
            for (int t = 0; t < MOST_THIEVES; t++) {
                if (cells[row + t] > 0) {
                    bits |= 1 << t;
                }
            }
            return bits;
        }
    }

    /** How it was ahead of the last things done: a ring, so that the oldest one makes room. */
    private static final class Past {
        private final int[] rows = new int[MOST_UNDONE * State.SIZE];
        private int next;
        int size;

        void clear() {
            size = 0;
        }

        void keep(State state) {
            System.arraycopy(state.cells, 0, rows, next * State.SIZE, State.SIZE);
            next = (next + 1) % MOST_UNDONE;
            size = Math.min(MOST_UNDONE, size + 1);
        }

        boolean bringBack(State state) {
            if (size == 0) {
                return false;
            }
            next = (next + MOST_UNDONE - 1) % MOST_UNDONE;
            size--;
            System.arraycopy(rows, next * State.SIZE, state.cells, 0, State.SIZE);
            return true;
        }
    }

    /** What was SEEN of the unknown THIEF. */
    private static final class Seen {
        int size;
        private final int[] days = new int[MOST_SEEN];
        private final int[] nights = new int[MOST_SEEN];
        private final boolean[] opens = new boolean[MOST_SEEN];

        void clear() {
            size = 0;
        }

        boolean add(int day, int night, boolean open) {
            if (size >= MOST_SEEN) {
                return false;
            }
            days[size] = day;
            nights[size] = night;
            opens[size] = open;
            size++;
            return true;
        }

        void copy(Seen other) {
            size = other.size;
            for (int i = 0; i < size; i++) {
                days[i] = other.days[i];
                nights[i] = other.nights[i];
                opens[i] = other.opens[i];
            }
        }

        boolean fits(State state, Almanac book, int thief) {
            for (int i = 0; i < size; i++) {
                if (state.isOpenBehind(book, thief, days[i], nights[i]) != opens[i]) {
                    return false;
                }
            }
            return true;
        }
    }

    /** A MARK. */
    private static final class Mark {
        boolean laid;
        private final State state = new State();
        private final Year year = new Year();
        private final Seen seen = new Seen();

        void lay(State stateNow, Year yearNow, Seen seenNow) {
            laid = true;
            state.copy(stateNow);
            year.copy(yearNow);
            seen.copy(seenNow);
        }

        void goBack(State stateNow, Year yearNow, Seen seenNow) {
            stateNow.copy(state);
            yearNow.copy(year);
            seenNow.copy(seen);
        }
    }

    /** Tries all rows of GANG, the first ones first, so that of equal ones the first stays. */
    private static final class Gang {
        private final int[] row = new int[MOST_THIEVES];
        final int[] best = new int[MOST_THIEVES];
        int most;

        void search(State state, Almanac book) {
            most = NONE;
            send(state, book, 0, 0, 0);
        }

        private void send(State state, Almanac book, int thief, int gone, int sum) {
            if (thief >= book.thieves || thief >= MOST_THIEVES) {
                if (sum > most) {
                    most = sum;
                    System.arraycopy(row, 0, best, 0, MOST_THIEVES);
                }
                return;
            }
            for (int d = 0; d < book.days; d++) {
                int much = state.bagged(book, thief, d);
                if (much > 0 && (gone >> d & 1) == 0) {
                    row[thief] = d;
                    send(state, book, thief + 1, gone | 1 << d, sum + much);
                }
            }
            row[thief] = NONE;
            send(state, book, thief + 1, gone, sum);
        }
    }

    /** Tries the rows of SPREE, the first ones first, but for those that can't bring more than the best so far. */
    private static final class Spree {
        // Of each night, one after the other: what is left of the DAYS, and how they are guarded.
        private final int[] left = new int[(LONGEST_SPREE + 1) * MOST_DAYS];
        private final int[] guard = new int[(LONGEST_SPREE + 1) * MOST_DAYS];
        private int skill;
        private int sack;
        private int nights;
        int most;
        int first;

        void search(State state, Almanac book, int thief, int nightsOfAll) {
            skill = book.skills[thief];
            sack = book.sacks[thief];
            nights = nightsOfAll;
            most = NONE;
            first = NONE;
            for (int d = 0; d < book.days; d++) {
                left[d] = state.cells[State.LEFT + d];
                guard[d] = state.cells[State.GUARD + d];
            }
            go(book, 0, 0, state.cells[State.GUILT + thief], NONE);
        }

        private void go(Almanac book, int night, int joy, int guilt, int firstDay) {
            if (joy + hope(book, night) <= most) {
                return;
            }
            if (night >= nights || night >= LONGEST_SPREE) {
                most = joy;
                first = firstDay;
                return;
            }
            int base = night * MOST_DAYS;
            for (int d = 0; d < book.days; d++) {
                if (left[base + d] > 0 && guard[base + d] <= skill) {
                    int much = Math.min(sack, left[base + d]);
                    passNight(book, base, d, much);
                    go(book, night + 1, joy + Math.max(0, much - guilt), 0, night == 0 ? d : firstDay);
                }
            }
            passNight(book, base, NONE, 0);
            go(book, night + 1, joy, guilt, firstDay);
        }

        /** What the nights to come could bring at the most, were a DAY none the worse for being stolen from. */
        private int hope(Almanac book, int night) {
            int base = night * MOST_DAYS;
            int sum = 0;
            for (int n = 0; n < nights - night; n++) {
                int best = 0;
                for (int d = 0; d < book.days; d++) {
                    if (Math.max(book.guards[d], guard[base + d] - n) <= skill) {
                        best = Math.max(best, Math.min(sack, Math.min(book.worths[d], left[base + d] + n)));
                    }
                }
                sum += best;
            }
            return sum;
        }

        private void passNight(Almanac book, int base, int robbed, int much) {
            int next = base + MOST_DAYS;
            for (int d = 0; d < book.days; d++) {
                int rest = left[base + d];
                int watch = guard[base + d];
                if (d == robbed) {
                    rest -= much;
                    watch = Math.min(TOP_GUARD, watch + 2);
                }
                left[next + d] = Math.min(book.worths[d], rest + 1);
                guard[next + d] = State.relaxed(watch, book.guards[d]);
            }
        }
    }
}
