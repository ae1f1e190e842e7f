/** Promises 33 to 38: see, who, ask, chance, rests, years. */
public final class CluesTest {
    private static final String BOOK = "day mon plain worth 6 guard 2;day sun sunday worth 8 guard 5;"
            + "day whit wet worth 9 guard 1;day fair feast worth 10 guard 4;"
            + "thief al skill 5 sack 4;thief bo skill 2 sack 7;";
    private static final int[] WRONG = {-1, Integer.MIN_VALUE, Integer.MAX_VALUE};

    public static void main(String[] args) {
        nobody();
        seeing();
        whoByWhatIsNow();
        asking();
        askingLater();
        chances();
        chanceNights();
        bargains();
        wrongBargains();
        wrongYears();
        yearsByDraws();
        yearsWithoutDays();
        yearsLeaveAll();
        Check.end();
    }

    private static void nobody() {
        StolenHolidays x = new StolenHolidays();
        Check.due("see", x.see(0, 0, true), false);
        Check.due("who", x.who(), 0);
        Check.due("ask", x.ask(), -1);
        Check.due("chance", x.chance(0, 0, 1, 1), -1);
        Check.due("years", x.years(0, 1, 0), 0);
        x = Check.told("thief s skill 9 sack 1;thief t skill 0 sack 1;");
        Check.due("who without days", x.who(), 3);
        Check.due("ask without days", x.ask(), -1);
    }

    private static void seeing() {
        StolenHolidays x = Check.told(BOOK);
        for (int n : WRONG) {
            Check.due("see day " + n, x.see(n, 0, true), false);
            Check.due("see nights " + n, x.see(0, n, true), false);
        }
        Check.due("see day 4", x.see(4, 0, true), false);
        Check.due("see 31", x.see(0, 31, true), false);
        Check.due("none seen", x.count(9), 0);
        Check.due("all", x.who(), 3);
        Check.due("see 30", x.see(1, 30, false), true);
        Check.due("bo", x.who(), 2);
        Check.due("and", x.see(0, 0, true), true);
        Check.due("bo still", x.who(), 2);
        Check.due("never", x.see(0, 1, false), true);
        Check.due("nobody", x.who(), 0);
        Check.due("ask of nobody", x.ask(), -1);
        for (int i = 3; i < 8; i++) {
            Check.due("seen " + i, x.see(0, 0, true), true);
        }
        Check.due("eight", x.count(9), 8);
        Check.due("a ninth", x.see(0, 0, true), false);
        Check.due("still eight", x.count(9), 8);
        Check.due("nothing to undo", x.undo(), false);
    }

    private static void whoByWhatIsNow() {
        StolenHolidays x = Check.told(BOOK);
        x.see(2, 1, true);
        Check.due("both", x.who(), 3);
        x.steal(1, 1);
        Check.due("bo is caught", x.who(), 1);
        x.undo();
        Check.due("seen all the same", x.count(9), 1);
        Check.due("both again", x.who(), 3);
        x.steal(0, 2);
        Check.due("guard 3, 2 behind one: both", x.who(), 3);
        x.see(2, 0, true);
        Check.due("now it is not to bo", x.who(), 1);
        Check.nights(x, 2);
        Check.due("later it is", x.who(), 3);
    }

    private static void asking() {
        StolenHolidays x = Check.told(BOOK);
        Check.due("sun now", x.ask(), 1);
        x = Check.told("day a wet worth 9 guard 1;day b wet worth 9 guard 2;day c wet worth 9 guard 3;"
                + "thief s skill 0 sack 1;thief t skill 1 sack 1;thief u skill 2 sack 1;thief v skill 3 sack 1;");
        Check.due("by two", x.ask(), 1);
        x.see(1, 0, true);
        Check.due("u, v", x.who(), 12);
        Check.due("by one", x.ask(), 2);
        x.see(2, 0, false);
        Check.due("u", x.who(), 4);
        Check.due("known", x.ask(), -1);
        x = Check.told("day a wet worth 9 guard 1;thief s skill 1 sack 1;thief t skill 2 sack 1;");
        Check.due("nothing parts them", x.ask(), -1);
    }

    private static void askingLater() {
        StolenHolidays x = Check.told("day a wet worth 9 guard 0;day b wet worth 1 guard 0;"
                + "thief s skill 9 sack 9;thief t skill 9 sack 9;thief u skill 1 sack 1;");
        Check.due("none parts them", x.ask(), -1);
        x.steal(0, 1);
        // b is empty now; behind one night it is there, guarded by 1: open to all three.
        Check.due("none yet", x.ask(), -1);
        x.steal(2, 0);
        x.undo();
        x.steal(1, 0);
        Check.due("a is empty, too", x.ask(), -1);
        x.night();
        x.spend(0);
        x.steal(0, 1);
        // b: empty, guard 3; behind one night guard 2: not open to u; a: 1 left, guard 1.
        Check.due("b behind one night", x.ask(), 8 * 1 + 1);
    }

    private static void chance(StolenHolidays x, int thief, int day, int nights, int odds, int want) {
        Check.due("chance of " + nights + " by " + odds, x.chance(thief, day, nights, odds), want);
    }

    private static void chances() {
        StolenHolidays x = Check.told(BOOK);
        for (int n : WRONG) {
            chance(x, n, 0, 1, 1, -1);
            chance(x, 0, n, 1, 1, -1);
            chance(x, 0, 0, n, 1, -1);
            chance(x, 0, 0, 1, n, -1);
        }
        chance(x, 2, 0, 1, 1, -1);
        chance(x, 0, 4, 1, 1, -1);
        chance(x, 0, 0, 0, 1, -1);
        chance(x, 0, 0, 7, 1, -1);
        chance(x, 0, 0, 1, 11, -1);
        // mon by bo: 2; constables: 5, then 4.
        chance(x, 1, 0, 1, 0, 1000000);
        chance(x, 1, 0, 1, 10, 0);
        chance(x, 1, 0, 1, 3, 700000);
        // mon by al: 2 -> 4 is open; twice 2 -> 4 -> 6 is not.
        chance(x, 0, 0, 1, 10, 1000000);
        chance(x, 0, 0, 2, 3, 910000);
        chance(x, 0, 0, 2, 10, 0);
        chance(x, 1, 1, 6, 0, 0);
    }

    private static void chanceNights() {
        StolenHolidays x = Check.told(BOOK);
        // whit by bo: 1 -> 3 -> 2 -> 1: none in the last two, one at most ahead of these two in any way
        // (1 -> 3 -> 5 -> 4 -> 3 is not, 1 -> 3 -> 2 -> 1 is).
        chance(x, 1, 2, 2, 5, 500000);
        chance(x, 1, 2, 3, 1, 891000);
        // Guards are 9 at most: one constable more makes no difference behind it.
        x = Check.told("day a wet worth 1 guard 8;day b wet worth 1 guard 0;thief s skill 8 sack 1;thief t skill 0 sack 1;");
        chance(x, 0, 0, 6, 10, 1000000);
        chance(x, 0, 0, 6, 1, 1000000);
        // None in the last two, and 2 at most behind the first four: none, one, or the first and one other of them.
        chance(x, 1, 1, 6, 1, 787320);
        x.steal(1, 0);
        // Caught for eight nights.
        chance(x, 1, 1, 6, 0, 0);
        x.undo();
        x.steal(0, 1);
        // Nothing left now, one behind a night, guarded by 1.
        chance(x, 1, 1, 1, 0, 0);
        chance(x, 1, 1, 2, 0, 1000000);
        chance(x, 1, 1, 2, 10, 0);
        Check.due("nothing is done", x.count(2), 0);
    }

    private static void bargain(int lose, int tells, int not, int... rests) {
        StolenHolidays x = new StolenHolidays();
        Check.due("how many", Check.rests(x, lose, tells, not, -1), rests.length);
        for (int i = 0; i < rests.length; i++) {
            Check.due("rest " + i, Check.rests(x, lose, tells, not, i), rests[i]);
        }
        Check.due("no more", Check.rests(x, lose, tells, not, rests.length), Check.THROWN);
        Check.due("none such", Check.rests(x, lose, tells, not, -2), Check.THROWN);
        Check.due("none such by far", Check.rests(x, lose, tells, not, Integer.MIN_VALUE), Check.THROWN);
        Check.due("none so great", Check.rests(x, lose, tells, not, Integer.MAX_VALUE), Check.THROWN);
    }

    private static void bargains() {
        bargain(2, 5, 1, 1, 2);
        bargain(9, 9, 9, 1, 2);
        bargain(0, 9, 0, 1, 2, 3);
        bargain(0, 9, 1, 1, 2);
        bargain(1, 9, 0, 1, 2);
        bargain(1, 0, 0, 0, 1, 2);
        bargain(0, 0, 0, 0, 1, 2, 3);
        bargain(0, 0, 5, 0, 1, 2);
    }

    private static void wrongBargains() {
        StolenHolidays x = new StolenHolidays();
        int[] wrong = {-1, 10, Integer.MIN_VALUE, Integer.MAX_VALUE};
        for (int n : wrong) {
            Check.due("lose " + n, Check.rests(x, n, 1, 1, -1), Check.THROWN);
            Check.due("tells " + n, Check.rests(x, 1, n, 1, -1), Check.THROWN);
            Check.due("not " + n, Check.rests(x, 1, 1, n, 0), Check.THROWN);
        }
    }

    private static void wrongYears() {
        StolenHolidays x = Check.told(BOOK);
        for (int n : WRONG) {
            Check.due("seed " + n, x.years(n, 1, 0), -1);
            Check.due("nights " + n, x.years(0, n, 0), -1);
            Check.due("what " + n, x.years(0, 1, n), -1);
        }
        Check.due("seed 10000", x.years(10000, 1, 0), -1);
        Check.due("0 nights", x.years(0, 0, 0), -1);
        Check.due("100 nights", x.years(0, 100, 0), -1);
        Check.due("what 3", x.years(0, 1, 3), -1);
        Check.due("the greatest", x.years(9999, 99, 2) >= 0, true);
    }

    private static long g;

    private static int draw(int below) {
        g = (g * 1103515245L + 12345L) % 2147483648L;
        return (int) (g / 65536 % below);
    }

    /** The same done by hand with an object of its own. */
    static void sameByHand(String book, int seed, int nights) {
        StolenHolidays x = Check.told(book);
        StolenHolidays y = Check.told(book);
        int taken = 0;
        g = seed;
        for (int n = 0; n < nights; n++) {
            int thief = draw(x.count(1));
            int day = draw(x.count(0));
            int choice = draw(4);
            if (choice < 2) {
                taken += Math.max(0, y.steal(thief, day));
            } else if (choice == 2) {
                y.sell(thief);
            } else {
                y.spend(thief);
            }
            y.night();
        }
        Check.due("taken by " + seed, x.years(seed, nights, 0), taken);
        Check.due("coins by " + seed, x.years(seed, nights, 1), y.count(6));
        Check.due("caught by " + seed, x.years(seed, nights, 2), y.count(4));
    }

    private static void yearsByDraws() {
        for (int seed = 0; seed < 40; seed++) {
            sameByHand(BOOK, seed * 251, seed + 1);
            sameByHand(BOOK + "thief cy skill 0 sack 1;pays date*2-old;", 9999 - seed, 99 - seed);
        }
        StolenHolidays x = Check.told(BOOK);
        x.steal(1, 2);
        x.sell(1);
        x.steal(1, 1);
        // From now on: coins that are there count, what was taken does not.
        Check.due("coins", x.years(3, 1, 1) >= 7, true);
        Check.due("caught", x.years(3, 1, 2) & 2, 2);
        Check.due("free by then", x.years(3, 3, 2) & 2, 0);
    }

    private static void yearsWithoutDays() {
        StolenHolidays x = Check.told("thief t skill 9 sack 1;");
        for (int what = 0; what < 3; what++) {
            Check.due("without days " + what, x.years(1, 99, what), 0);
        }
        x = Check.told("day a wet worth 9 guard 0;");
        for (int what = 0; what < 3; what++) {
            Check.due("without thieves " + what, x.years(1, 99, what), 0);
        }
    }

    private static void yearsLeaveAll() {
        StolenHolidays x = Check.told(BOOK);
        x.steal(0, 1);
        x.years(17, 99, 0);
        Check.due("night", x.count(2), 0);
        Check.due("left", x.count(3), 29);
        Check.due("piece", x.thief(0, 2), 4);
        Check.due("to undo", x.count(10), 1);
        Check.due("twice the same", x.years(17, 99, 0), x.years(17, 99, 0));
    }
}
