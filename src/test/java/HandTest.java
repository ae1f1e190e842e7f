/** Promises 5 to 13: day, thief, and what is done by hand; judged. */
public final class HandTest {
    private static final String BOOK = "day mon plain worth 6 guard 2;day sun sunday worth 8 guard 5;"
            + "day whit wet worth 9 guard 1;day fair feast worth 10 guard 4;"
            + "thief al skill 5 sack 4;thief bo skill 2 sack 7;thief cy skill 9 sack 12;pays much*3-old+date;";
    private static final int[] WRONG = {-1, -2, 8, 9, Integer.MIN_VALUE, Integer.MAX_VALUE};

    public static void main(String[] args) {
        wrongNumbers();
        days();
        stealing();
        caught();
        guardsAtMost();
        selling();
        spending();
        swapping();
        plainNights();
        sundayNights();
        wetNights();
        feastNights();
        daysByNight();
        undoing();
        undoneInAll();
        judging();
        judgedFromTheBeginning();
        Check.end();
    }

    private static void wrongNumbers() {
        StolenHolidays x = Check.told(BOOK);
        for (int n : WRONG) {
            Check.due("day " + n, x.day(n, 0), -1);
            Check.due("day what " + n, x.day(0, n == 8 ? 5 : n), -1);
            Check.due("thief " + n, x.thief(n, 0), -2);
            Check.due("thief what " + n, x.thief(0, n == 8 ? 10 : n), -2);
            Check.due("steal by " + n, x.steal(n, 0), -1);
            Check.due("steal from " + n, x.steal(0, n), -1);
            Check.due("sell " + n, x.sell(n), -1);
            Check.due("spend " + n, x.spend(n), -1);
            Check.due("swap " + n, x.swap(n, 0), false);
            Check.due("swap with " + n, x.swap(0, n), false);
            Check.due("judged " + n, x.judged(n), -2);
        }
        Check.due("day 4", x.day(4, 0), -1);
        Check.due("thief 3", x.thief(3, 0), -2);
        Check.due("judged 3", x.judged(3), -2);
        Check.due("steal by 3", x.steal(3, 0), -1);
        Check.due("steal from 4", x.steal(0, 4), -1);
        Check.due("nothing done", x.count(10), 0);
    }

    private static void days() {
        StolenHolidays x = Check.told(BOOK);
        x.steal(0, 3);
        int[] want = {3, 10, 6, 6, 4};
        for (int what = 0; what < want.length; what++) {
            Check.due("day 3 what " + what, x.day(3, what), want[what]);
        }
        int[] has = {5, 4, 4, 3, 0, 0, 0, 0, 0};
        int[] hasNot = {2, 7, 0, -1, -1, 0, 0, 0, 0};
        for (int what = 0; what < has.length; what++) {
            Check.due("thief 0 what " + what, x.thief(0, what), has[what]);
            Check.due("thief 1 what " + what, x.thief(1, what), hasNot[what]);
        }
    }

    private static void stealing() {
        StolenHolidays x = Check.told(BOOK);
        Check.due("the sack", x.steal(1, 2), 7);
        Check.due("left", x.day(2, 2), 2);
        Check.due("guard", x.day(2, 3), 3);
        Check.due("has one", x.steal(1, 0), -1);
        Check.due("all that is left", x.steal(2, 2), 2);
        Check.due("nothing left", x.day(2, 2), 0);
        Check.due("guard again", x.day(2, 3), 5);
        Check.due("of nothing", x.steal(0, 2), -1);
        Check.due("its guard stays", x.day(2, 3), 5);
        Check.due("skill as its guard", x.steal(0, 1), 4);
        Check.due("kind", x.thief(0, 3), 1);
        Check.due("done", x.count(10), 3);
    }

    private static void caught() {
        StolenHolidays x = Check.told(BOOK);
        Check.due("caught", x.steal(1, 3), 0);
        Check.due("for", x.thief(1, 5), 2);
        Check.due("guard", x.day(3, 3), 5);
        Check.due("left", x.day(3, 2), 10);
        Check.due("no piece", x.thief(1, 2), 0);
        Check.due("not free", x.steal(1, 2), -1);
        Check.due("sell", x.sell(1), -1);
        Check.due("spend", x.spend(1), -1);
        x.night();
        Check.due("for less", x.thief(1, 5), 1);
        Check.due("not free yet", x.steal(1, 2), -1);
        x.night();
        Check.due("free", x.thief(1, 5), 0);
        Check.due("steals", x.steal(1, 2), 7);
    }

    private static void guardsAtMost() {
        StolenHolidays x = Check.told("day a plain worth 24 guard 8;thief s skill 9 sack 1;thief t skill 0 sack 1;"
                + "thief u skill 8 sack 1;");
        x.steal(0, 0);
        Check.due("9 by two", x.day(0, 3), 9);
        Check.due("caught by 9", x.steal(1, 0), 0);
        Check.due("9 by one", x.day(0, 3), 9);
        Check.due("for nine", x.thief(1, 5), 9);
        Check.due("by one", x.steal(2, 0), 0);
        Check.due("for one", x.thief(2, 5), 1);
    }

    private static void selling() {
        StolenHolidays x = Check.told(BOOK);
        Check.due("without", x.sell(0), -1);
        x.steal(0, 0);
        Check.nights(x, 2);
        Check.due("12 - 2 + 2", x.sell(0), 12);
        Check.due("coins", x.thief(0, 7), 12);
        Check.due("no piece", x.thief(0, 2), 0);
        Check.due("no kind", x.thief(0, 3), -1);
        Check.due("twice", x.sell(0), -1);
        x.steal(0, 3);
        Check.due("12 + 2", x.sell(0), 14);
        Check.due("more coins", x.thief(0, 7), 26);
        Check.due("no joy", x.thief(0, 8), 0);
        x = Check.told("day s sunday worth 9 guard 0;thief t skill 0 sack 5;pays old*1000-50;");
        x.steal(0, 0);
        Check.due("0 at least", x.sell(0), 0);
        Check.due("it is sold", x.thief(0, 2), 0);
        Check.nights(x, 2);
        x.steal(0, 0);
        x.night();
        Check.due("99 at most", x.sell(0), 99);
        Check.due("guilt stays", x.thief(0, 6), 1);
    }

    private static void spending() {
        StolenHolidays x = Check.told("day s sunday worth 24 guard 0;day p plain worth 24 guard 0;thief t skill 9 sack 4;");
        Check.due("without", x.spend(0), -1);
        x.steal(0, 0);
        Check.due("all of it", x.spend(0), 4);
        Check.due("joy", x.thief(0, 8), 4);
        x.steal(0, 0);
        Check.nights(x, 3);
        Check.due("guilt", x.thief(0, 6), 3);
        Check.due("less guilt", x.spend(0), 1);
        Check.due("no guilt", x.thief(0, 6), 0);
        Check.due("more joy", x.thief(0, 8), 5);
        Check.due("no piece", x.thief(0, 4), -1);
        x.steal(0, 0);
        Check.nights(x, 6);
        Check.due("0 at least", x.spend(0), 0);
        Check.due("as much joy", x.thief(0, 8), 5);
        Check.due("no coins", x.thief(0, 7), 0);
        x.steal(0, 0);
        Check.nights(x, 2);
        x.sell(0);
        Check.due("guilt of one that is sold", x.thief(0, 6), 2);
        x.steal(0, 1);
        Check.due("spoils another one", x.spend(0), 2);
    }

    private static void swapping() {
        StolenHolidays x = Check.told(BOOK);
        x.steal(0, 1);
        Check.due("one has none", x.swap(0, 1), false);
        Check.due("the other has none", x.swap(1, 0), false);
        x.night();
        x.steal(1, 2);
        Check.due("the same", x.swap(0, 0), false);
        Check.due("swapped", x.swap(0, 1), true);
        int[] first = {7, 2, 0};
        int[] other = {4, 1, 1};
        for (int i = 0; i < 3; i++) {
            Check.due("first's piece " + i, x.thief(0, 2 + i), first[i]);
            Check.due("other's piece " + i, x.thief(1, 2 + i), other[i]);
        }
        Check.due("guilt stays", x.thief(0, 6), 1);
        Check.due("none of it", x.thief(1, 6), 0);
        x.night();
        Check.due("no more guilt", x.thief(0, 6), 1);
        Check.due("guilt", x.thief(1, 6), 1);
        Check.due("done", x.count(10), 5);
    }

    private static StolenHolidays stolen(String kind) {
        StolenHolidays x = Check.told("day a " + kind + " worth 24 guard 0;thief t skill 9 sack 7;");
        x.steal(0, 0);
        return x;
    }

    private static void pieceByNight(String kind, int[] much) {
        StolenHolidays x = stolen(kind);
        for (int n = 0; n < much.length; n++) {
            Check.due(kind + " behind " + n, x.thief(0, 2), much[n]);
            Check.due(kind + " old", x.thief(0, 4), much[n] == 0 ? -1 : n);
            int bits = x.night();
            Check.due(kind + " held", bits, n + 1 < much.length && much[n + 1] > 0 ? 1 : 0);
        }
    }

    private static void plainNights() {
        pieceByNight("plain", new int[] {7, 7, 7, 7, 6, 5, 4, 3, 2, 1, 0, 0});
    }

    private static void sundayNights() {
        StolenHolidays x = stolen("sunday");
        for (int n = 1; n <= 12; n++) {
            Check.due("held", x.night(), 1);
            Check.due("stays", x.thief(0, 2), 7);
            Check.due("guilt", x.thief(0, 6), Math.min(9, n));
            Check.due("old", x.thief(0, 4), n);
        }
    }

    private static void wetNights() {
        pieceByNight("wet", new int[] {7, 3, 1, 0, 0});
    }

    private static void feastNights() {
        pieceByNight("feast", new int[] {7, 7, 7, 7, 0, 0});
    }

    private static void daysByNight() {
        StolenHolidays x = Check.told(BOOK);
        x.steal(2, 0);
        Check.due("none left", x.day(0, 2), 0);
        int[] left = {0, 1, 2, 3, 4, 5, 6, 6};
        int[] guard = {4, 3, 2, 2, 2, 2, 2, 2};
        for (int n = 0; n < left.length; n++) {
            Check.due("left behind " + n, x.day(0, 2), left[n]);
            Check.due("guard behind " + n, x.day(0, 3), guard[n]);
            Check.due("night", x.count(2), n);
            x.night();
        }
        Check.due("another one's worth", x.day(1, 2), 8);
        x.steal(0, 2);
        x.steal(1, 2);
        Check.due("who has", x.night(), 1);
        x.steal(2, 2);
        Check.due("who have", x.night(), 5);
    }

    private static void undoing() {
        StolenHolidays x = Check.told(BOOK);
        Check.due("nothing", x.undo(), false);
        x.steal(0, 1);
        x.steal(1, 1);
        x.night();
        x.steal(2, 3);
        x.swap(0, 2);
        x.sell(0);
        x.spend(2);
        Check.due("seven", x.count(10), 7);
        Check.due("the spend", x.undo(), true);
        Check.due("no joy", x.thief(2, 8), 0);
        Check.due("a piece", x.thief(2, 2), 4);
        Check.due("the sell", x.undo(), true);
        Check.due("no coins", x.thief(0, 7), 0);
        Check.due("the swap", x.undo(), true);
        Check.due("kind", x.thief(0, 3), 1);
        Check.due("the steal", x.undo(), true);
        Check.due("left", x.day(3, 2), 10);
        Check.due("the night", x.undo(), true);
        Check.due("night", x.count(2), 0);
        Check.due("guilt", x.thief(0, 6), 0);
        Check.due("still caught", x.thief(1, 5), 5);
        Check.due("the catch", x.undo(), true);
        Check.due("free", x.thief(1, 5), 0);
        Check.due("guard", x.day(1, 3), 7);
        Check.due("the first", x.undo(), true);
        Check.due("guard", x.day(1, 3), 5);
        Check.due("nothing more", x.undo(), false);
        Check.due("none", x.count(10), 0);
    }

    private static void undoneInAll() {
        StolenHolidays x = Check.told(BOOK);
        Check.nights(x, 20);
        Check.due("sixteen", x.count(10), 16);
        for (int n = 0; n < 10; n++) {
            x.undo();
        }
        Check.due("six left", x.count(10), 6);
        Check.nights(x, 3);
        x.sell(0);
        x.swap(0, 1);
        x.steal(0, 9);
        Check.due("nine", x.count(10), 9);
        int undone = 0;
        while (undone < 99 && x.undo()) {
            undone++;
        }
        Check.due("undone", undone, 9);
        Check.due("the night", x.count(2), 4);
    }

    private static void judge(String year, int cannot, int caught, int joy) {
        StolenHolidays x = Check.told(BOOK);
        Check.due("year of " + year, Check.readYear(x, year), 0);
        Check.due("can't be: " + year, x.judged(0), cannot);
        Check.due("caught: " + year, x.judged(1), caught);
        Check.due("joy: " + year, x.judged(2), joy);
    }

    private static void judging() {
        judge("", -1, -1, 0);
        judge("night;night;", -1, -1, 0);
        judge("steal al mon;spend al;", -1, -1, 4);
        judge("steal al mon;spend al;steal cy fair;night;spend cy;spend cy;", 5, -1, 14);
        judge("sell al;steal bo fair;steal bo sun;", 0, 1, 0);
        judge("steal bo fair;night;spend bo;night;steal bo whit;steal al sun;swap al bo;spend al;spend bo;", 2, 0, 11);
        judge("night;steal al mon;steal bo fair;steal bo mon;steal cy whit;swap al cy;spend cy;spend al;", 3, 2, 13);
        judge("steal al sun;night;night;swap al bo;spend al;steal al mon;sell al;", 3, -1, 2);
        // Left out: what can't be changes nothing.
        judge("steal al mon;steal al mon;steal cy mon;spend cy;spend al;", 1, -1, 6);
    }

    private static void judgedFromTheBeginning() {
        StolenHolidays x = Check.told(BOOK);
        x.steal(0, 0);
        x.steal(1, 3);
        Check.nights(x, 2);
        x.spend(0);
        Check.readYear(x, "steal bo whit;steal al fair;spend al;spend bo;");
        Check.due("first", x.judged(0), -1);
        Check.due("caught", x.judged(1), -1);
        Check.due("joy", x.judged(2), 11);
        Check.due("all stays: joy", x.thief(0, 8), 4);
        Check.due("all stays: night", x.count(2), 2);
        Check.due("all stays: left", x.day(3, 2), 10);
        Check.due("all stays: undone", x.count(10), 5);
    }
}
