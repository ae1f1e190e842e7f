/** Promises 29 to 32: gang, cover, watch, spree. */
public final class SearchTest {
    private static final String BOOK = "day mon plain worth 6 guard 2;day sun sunday worth 8 guard 5;"
            + "day whit wet worth 9 guard 1;day fair feast worth 10 guard 4;"
            + "thief al skill 5 sack 4;thief bo skill 2 sack 7;";

    public static void main(String[] args) {
        nobody();
        gangs();
        gangTies();
        gangOfThoseWhoCould();
        covers();
        watches();
        watchOfAll();
        wrongSprees();
        sprees();
        spreeGuilt();
        spreeTies();
        spreeWaits();
        Check.end();
    }

    private static void nobody() {
        StolenHolidays x = new StolenHolidays();
        Check.due("gang", x.gang(-1), 0);
        Check.due("gang 0", x.gang(0), -2);
        Check.due("cover", x.cover(), 0);
        Check.due("watch", x.watch(), -1);
        Check.due("spree", x.spree(0, 1, 0), -2);
        x = Check.told("thief a skill 9 sack 1;");
        Check.due("gang without days", x.gang(-1), 0);
        Check.due("goes nowhere", x.gang(0), -1);
        Check.due("cover without days", x.cover(), 0);
        Check.due("watch without days", x.watch(), -1);
        x = Check.told("day a wet worth 9 guard 0;");
        Check.due("gang without thieves", x.gang(-1), 0);
        Check.due("cover without thieves", x.cover(), 0);
        Check.due("watch without thieves", x.watch(), -1);
    }

    private static void gang(StolenHolidays x, int most, int... row) {
        Check.due("gang", x.gang(-1), most);
        for (int t = 0; t < row.length; t++) {
            Check.due("gang " + t, x.gang(t), row[t]);
        }
        Check.due("gang " + row.length, x.gang(row.length), -2);
        Check.due("gang -2", x.gang(-2), -2);
        Check.due("gang least", x.gang(Integer.MIN_VALUE), -2);
        Check.due("gang greatest", x.gang(Integer.MAX_VALUE), -2);
    }

    private static void gangs() {
        gang(Check.told(BOOK), 11, 0, 2);
        // The greatest of the first one would cost the second one more.
        gang(Check.told("day a wet worth 5 guard 0;day b wet worth 4 guard 3;thief s skill 3 sack 9;thief t skill 0 sack 9;"),
                9, 1, 0);
        // None at all for one of them.
        gang(Check.told("day a wet worth 5 guard 0;thief s skill 3 sack 1;thief t skill 0 sack 9;"), 5, -1, 0);
        gang(Check.told("day a wet worth 5 guard 9;thief s skill 3 sack 1;"), 0, -1);
        gang(Check.told("day a wet worth 3 guard 0;day b wet worth 5 guard 0;day c wet worth 8 guard 0;"
                + "thief s skill 3 sack 9;thief t skill 0 sack 4;thief u skill 0 sack 6;thief v skill 0 sack 1;"),
                8 + 3 + 5, 2, 0, 1, -1);
    }

    private static void gangTies() {
        gang(Check.told("day a wet worth 9 guard 0;day b wet worth 9 guard 0;thief s skill 3 sack 4;thief t skill 0 sack 4;"),
                8, 0, 1);
        // A DAY comes ahead of none for the first one.
        gang(Check.told("day a wet worth 9 guard 0;thief s skill 3 sack 4;thief t skill 0 sack 4;"), 4, 0, -1);
        gang(Check.told("day a wet worth 4 guard 9;day b wet worth 4 guard 0;thief s skill 3 sack 4;thief t skill 9 sack 4;"),
                8, 1, 0);
    }

    private static void gangOfThoseWhoCould() {
        StolenHolidays x = Check.told(BOOK);
        x.steal(0, 0);
        gang(x, 7, -1, 2);
        x.steal(1, 1);
        gang(x, 0, -1, -1);
        x.spend(0);
        gang(x, 4, 2, -1);
    }

    private static void covers() {
        StolenHolidays x = Check.told(BOOK);
        Check.due("4 + 1 + 5 + 2", x.cover(), 12);
        x.steal(0, 2);
        Check.due("skill 2 alone: mon 1, whit has 3", x.cover(), 1);
        x.steal(1, 1);
        Check.due("nobody could", x.cover(), 0);
        x = Check.told("day a wet worth 9 guard 9;thief s skill 9 sack 9;thief t skill 8 sack 1;");
        Check.due("not by 9", x.cover(), -1);
        x.steal(0, 0);
        Check.due("nothing left", x.cover(), 0);
        x.night();
        Check.due("closed to skill 8", x.cover(), 0);
        x.spend(0);
        Check.due("again not by 9", x.cover(), -1);
        x = Check.told("day a wet worth 9 guard 0;day b wet worth 9 guard 8;thief t skill 8 sack 1;");
        Check.due("up to 9", x.cover(), 10);
    }

    private static void watches() {
        StolenHolidays x = Check.told(BOOK);
        Check.due("whit: bo would take 6", x.watch(), 2);
        x.steal(1, 2);
        Check.due("al takes 4 anywhere", x.watch(), -1);
        x.steal(0, 0);
        Check.due("nobody could", x.watch(), -1);
        x = Check.told("day a wet worth 3 guard 0;day b wet worth 8 guard 0;day c wet worth 5 guard 0;thief t skill 8 sack 12;");
        Check.due("the greatest", x.watch(), 1);
        x = Check.told("day a wet worth 3 guard 9;day b wet worth 8 guard 0;thief t skill 8 sack 12;");
        Check.due("the only one", x.watch(), 1);
        x = Check.told("day a wet worth 8 guard 9;day b wet worth 8 guard 0;day c wet worth 8 guard 0;thief t skill 8 sack 12;");
        Check.due("another is as good", x.watch(), -1);
    }

    private static void watchOfAll() {
        // The one who could take the most then counts, whoever it is.
        StolenHolidays x = Check.told("day a wet worth 9 guard 0;day b wet worth 9 guard 5;"
                + "thief s skill 0 sack 9;thief t skill 5 sack 9;");
        Check.due("t takes nine from the other", x.watch(), -1);
        x = Check.told("day a wet worth 9 guard 0;day b wet worth 7 guard 5;thief s skill 0 sack 9;thief t skill 5 sack 7;");
        Check.due("s can't take nine then", x.watch(), 0);
    }

    private static void wrongSprees() {
        StolenHolidays x = Check.told(BOOK);
        int[] wrong = {-1, 2, Integer.MIN_VALUE, Integer.MAX_VALUE};
        for (int n : wrong) {
            Check.due("thief " + n, x.spree(n, 1, 0), -2);
            Check.due("what " + n, x.spree(0, 1, n), -2);
            Check.due("nights " + n, x.spree(0, n == 2 ? 6 : n, 0), -2);
        }
        Check.due("0 nights", x.spree(0, 0, 0), -2);
        x.steal(0, 0);
        Check.due("has a piece", x.spree(0, 1, 0), -2);
        x.steal(1, 1);
        Check.due("caught", x.spree(1, 1, 1), -2);
    }

    private static void spree(StolenHolidays x, int thief, int nights, int joy, int first) {
        Check.due("spree of " + nights, x.spree(thief, nights, 0), joy);
        Check.due("first of " + nights, x.spree(thief, nights, 1), first);
    }

    private static void sprees() {
        StolenHolidays x = Check.told(BOOK);
        spree(x, 0, 1, 4, 0);
        spree(x, 0, 2, 8, 0);
        spree(x, 0, 5, 20, 0);
        // whit 7 or mon 6; mon is 6 + 7, whit first 7 + 6 too: mon comes first.
        spree(x, 1, 1, 7, 2);
        spree(x, 1, 2, 13, 0);
        // Behind two nights whit has 4 and is open again.
        spree(x, 1, 3, 17, 2);
        Check.due("all stays", x.count(2), 0);
        Check.due("to undo", x.count(10), 0);
        Check.due("joy", x.thief(1, 8), 0);
        x.steal(1, 2);
        x.spend(1);
        // The joy that there is does not count; mon has six.
        spree(x, 1, 1, 6, 0);
    }

    private static void spreeGuilt() {
        StolenHolidays x = Check.told("day s sunday worth 24 guard 0;day p plain worth 2 guard 0;thief t skill 9 sack 5;");
        x.steal(0, 0);
        Check.nights(x, 3);
        x.sell(0);
        Check.due("guilt", x.thief(0, 6), 3);
        spree(x, 0, 1, 2, 0);
        // The two of p first (2 - 3 is none), then 5: or 5 - 3 first and 5 again.
        spree(x, 0, 2, 7, 0);
        x.steal(0, 0);
        Check.nights(x, 4);
        x.sell(0);
        Check.due("more guilt", x.thief(0, 6), 7);
        // Nothing by either: the first row all the same.
        spree(x, 0, 1, 0, 0);
        spree(x, 0, 2, 5, 0);
    }

    private static void spreeTies() {
        StolenHolidays x = Check.told("day a wet worth 9 guard 9;day b wet worth 9 guard 3;day c wet worth 9 guard 0;"
                + "thief t skill 3 sack 2;thief u skill 0 sack 1;thief v skill 3 sack 9;");
        spree(x, 0, 1, 2, 1);
        spree(x, 0, 3, 6, 1);
        spree(x, 1, 1, 1, 2);
        // c is guarded by 1 behind the first night, 0 behind the second.
        spree(x, 1, 3, 2, 2);
        spree(x, 2, 2, 18, 1);
        x = Check.told("day a wet worth 9 guard 9;thief t skill 3 sack 2;");
        spree(x, 0, 5, 0, -1);
        x = Check.told("thief t skill 3 sack 2;");
        spree(x, 0, 5, 0, -1);
    }

    private static void spreeWaits() {
        // One DAY, closed for two nights by each theft: of three nights the last one is lost, or the first.
        StolenHolidays x = Check.told("day a wet worth 5 guard 3;thief t skill 3 sack 9;thief u skill 9 sack 4;");
        x.steal(1, 0);
        // 1 left, guard 5: nothing now; behind two nights 3 are there.
        spree(x, 0, 1, 0, -1);
        spree(x, 0, 2, 0, -1);
        spree(x, 0, 3, 3, -1);
        spree(x, 0, 4, 4, -1);
        spree(x, 0, 5, 5, -1);
        x.night();
        x.night();
        // Now 3 and 2 behind two nights more, or 5 behind two.
        spree(x, 0, 3, 5, 0);
        x = Check.told("day a wet worth 2 guard 0;thief t skill 9 sack 2;");
        x.steal(0, 0);
        x.spend(0);
        // Nothing is left of any DAY now; the THIEF could, though.
        spree(x, 0, 1, 0, -1);
        spree(x, 0, 2, 1, -1);
    }
}
