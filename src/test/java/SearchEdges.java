/** Promises 29 to 32 at their edges: gang, cover, watch, spree. */
final class SearchEdges {
    private SearchEdges() {
    }

    static void run() {
        gangOthers();
        gangWhoCould();
        gangOpen();
        gangNoTwo();
        gangFirstRow();
        gangFull();
        coverAtTheLeast();
        coverByNone();
        coverNeedless();
        watchTheLeast();
        watchLess();
        watchFirst();
        watchNobody();
        spreeOthers();
        spreeCouldNot();
        spreeNights();
        spreeAtOnce();
        spreeGuilt();
        spreeFirstRow();
        spreeNothing();
        spreeByHand();
        allStays();
    }

    private static void gang(String call, StolenHolidays x, int most, int... row) {
        Check.due(call + ": how much", x.gang(-1), most);
        for (int t = 0; t < row.length; t++) {
            Check.due(call + ": the day of " + t, x.gang(t), row[t]);
        }
        Check.due(call + ": one beyond", x.gang(row.length), -2);
    }

    private static void gangOthers() {
        Check.sentence(29, "GANG, what NONE: how much; i: the DAY of the i-th THIEF (NONE: none); -2: others.");
        StolenHolidays x = Twins.lived();
        gang("lived", x, 5, -1, -1, 1);
        Check.due("what -2", x.gang(-2), -2);
        Check.due("what 4", x.gang(4), -2);
        for (int wild : Check.WILD) {
            Check.due("what " + wild, x.gang(wild), -2);
        }
        gang("nobody", new StolenHolidays(), 0);
        gang("days alone", Check.told(AlmanacEdges.days(8)), 0);
        gang("thieves alone", Check.told(AlmanacEdges.thieves(4)), 0, -1, -1, -1, -1);
    }

    private static void gangWhoCould() {
        Check.sentence(29, "GANG: each THIEF who could STEAL goes to one DAY at most that is OPEN to them");
        StolenHolidays x = Check.told("day a plain worth 9 guard 1;day b plain worth 9 guard 1;thief s skill 1 sack 2;"
                + "thief t skill 0 sack 3;thief u skill 9 sack 4;");
        gang("t is not skilled", x, 6, 0, -1, 1);
        x.steal(0, 0);
        gang("s has a piece", x, 4, -1, -1, 0);
        x.steal(1, 1);
        x.steal(2, 1);
        gang("t is caught, u has a piece", x, 0, -1, -1, -1);
        x.spend(0);
        gang("guards are 3 and 4", x, 0, -1, -1, -1);
        x.spend(2);
        gang("u again", x, 4, -1, -1, 0);
    }

    private static void gangOpen() {
        Check.sentence(29, "goes to one DAY at most that is OPEN to them");
        for (int guard = 0; guard <= 9; guard++) {
            for (int skill = 0; skill <= 9; skill++) {
                StolenHolidays x = HandEdges.told("wet", 9, guard, skill, 4);
                gang("by " + skill + " from " + guard, x, skill >= guard ? 4 : 0, skill >= guard ? 0 : -1);
            }
        }
        StolenHolidays x = Check.told("day a wet worth 1 guard 0;thief s skill 9 sack 4;thief t skill 9 sack 4;");
        gang("1 left", x, 1, 0, -1);
        x.steal(0, 0);
        gang("none left", x, 0, -1, -1);
    }

    private static void gangNoTwo() {
        Check.sentence(29, "no two to one: how much they take, together, at the most");
        gang("one day", Check.told("day a wet worth 9 guard 0;thief s skill 0 sack 4;thief t skill 0 sack 5;"), 5, -1, 0);
        gang("two days", Check.told("day a wet worth 9 guard 0;day b wet worth 3 guard 0;thief s skill 0 sack 4;"
                + "thief t skill 0 sack 5;"), 8, 1, 0);
        // Not the greatest for the first one, but together.
        gang("together", Check.told("day a wet worth 9 guard 0;day b wet worth 4 guard 3;thief s skill 3 sack 9;"
                + "thief t skill 0 sack 9;"), 13, 1, 0);
        gang("not at any price", Check.told("day a wet worth 9 guard 0;day b wet worth 1 guard 3;thief s skill 3 sack 9;"
                + "thief t skill 0 sack 3;"), 9, 0, -1);
    }

    private static void gangFirstRow() {
        Check.sentence(29, "of equal ones the first row (of DAYS, by THIEVES; none comes behind all others): who goes where");
        gang("equal days", Check.told("day a wet worth 9 guard 0;day b wet worth 9 guard 0;thief s skill 0 sack 4;"
                + "thief t skill 0 sack 4;"), 8, 0, 1);
        gang("equal thieves", Check.told("day a wet worth 9 guard 0;thief s skill 0 sack 4;thief t skill 0 sack 4;"), 4, 0, -1);
        gang("the first one's is the first", Check.told("day a wet worth 4 guard 0;day b wet worth 4 guard 0;"
                + "day c wet worth 4 guard 0;thief s skill 0 sack 4;thief t skill 0 sack 4;"), 8, 0, 1);
        gang("the last but one has it", Check.told("day a wet worth 9 guard 5;thief s skill 0 sack 4;thief t skill 5 sack 4;"
                + "thief u skill 5 sack 4;"), 4, -1, 0, -1);
        gang("not the first row, if it is less", Check.told("day a wet worth 5 guard 0;day b wet worth 4 guard 0;thief s skill 0 sack 4;"
                + "thief t skill 0 sack 5;"), 9, 1, 0);
        gang("the later ones as well", Check.told("day a wet worth 9 guard 9;day b wet worth 2 guard 0;day c wet worth 2 guard 0;"
                + "thief s skill 9 sack 1;thief t skill 0 sack 2;thief u skill 0 sack 2;"), 5, 0, 1, 2);
    }

    private static void gangFull() {
        Check.sentence(29, "of equal ones the first row (of DAYS, by THIEVES; none comes behind all others): who goes where");
        StringBuilder days = new StringBuilder();
        for (int d = 0; d < 8; d++) {
            days.append(AlmanacEdges.day("d" + (char) ('a' + d), 12, 0));
        }
        StringBuilder thieves = new StringBuilder();
        for (int t = 0; t < 4; t++) {
            thieves.append(AlmanacEdges.thief("t" + (char) ('a' + t), 9, 12));
        }
        gang("eight days, four thieves", Check.told(days.toString() + thieves), 48, 0, 1, 2, 3);
        gang("the last days", Check.told(AlmanacEdges.days(8) + thieves), 8 + 7 + 6 + 5, 4, 5, 6, 7);
    }

    private static void coverAtTheLeast() {
        Check.sentence(30, "COVER: by how much the guards have to be more, 9 at most, all together, at the least, so that no DAY is"
                + " OPEN to any THIEF who could STEAL.");
        for (int guard = 0; guard <= 9; guard++) {
            for (int skill = 0; skill <= 8; skill++) {
                StolenHolidays x = HandEdges.told("wet", 9, guard, skill, 4);
                Check.due("by " + skill + " of " + guard, x.cover(), Math.max(0, skill + 1 - guard));
            }
        }
        StolenHolidays x = Check.told("day a wet worth 9 guard 0;day b wet worth 9 guard 4;day c wet worth 9 guard 6;"
                + "thief s skill 3 sack 1;thief t skill 5 sack 1;");
        Check.due("6 + 2 + 0 by the most skilled", x.cover(), 8);
        x.steal(1, 1);
        Check.due("s alone: 4", x.cover(), 4);
        x.steal(0, 0);
        Check.due("nobody could", x.cover(), 0);
    }

    private static void coverByNone() {
        Check.sentence(30, "COVER; NONE: by none.");
        for (int guard = 0; guard <= 9; guard++) {
            Check.due("skill 8 of " + guard, HandEdges.told("wet", 9, guard, 8, 4).cover(), Math.max(0, 9 - guard));
            Check.due("skill 9 of " + guard, HandEdges.told("wet", 9, guard, 9, 4).cover(), -1);
        }
        StolenHolidays x = Check.told("day a wet worth 1 guard 0;day b wet worth 9 guard 9;thief s skill 9 sack 1;"
                + "thief t skill 2 sack 1;");
        Check.due("s could", x.cover(), -1);
        x.steal(0, 1);
        Check.due("s has a piece: t alone", x.cover(), 3);
    }

    private static void coverNeedless() {
        Check.sentence(30, "so that no DAY is OPEN to any THIEF who could STEAL");
        Check.due("nobody", new StolenHolidays().cover(), 0);
        Check.due("thieves alone", Check.told("thief t skill 9 sack 1;").cover(), 0);
        Check.due("days alone", Check.told("day a wet worth 1 guard 0;").cover(), 0);
        StolenHolidays x = Check.told("day a wet worth 1 guard 0;day b wet worth 1 guard 2;thief s skill 9 sack 1;"
                + "thief t skill 3 sack 1;");
        x.steal(0, 0);
        Check.due("none is left of a", x.cover(), 2);
        x.spend(0);
        x.steal(0, 1);
        Check.due("nor of b", x.cover(), 0);
        x.spend(0);
        Check.due("nothing to take for skill 9, too", x.cover(), 0);
        x.night();
        Check.due("1 is enough", x.cover(), -1);
    }

    private static void watchTheLeast() {
        Check.sentence(31, "WATCH: the DAY that, if it is OPEN to nobody, leaves the least for the one THIEF who could take the most");
        String days = "day a wet worth 3 guard 0;day b wet worth 8 guard 0;day c wet worth 5 guard 0;";
        Check.due("b of 3, 8, 5", Check.told(days + "thief t skill 0 sack 12;").watch(), 1);
        Check.due("a sack of 6", Check.told(days + "thief t skill 0 sack 6;").watch(), 1);
        Check.due("a sack of 5", Check.told(days + "thief t skill 0 sack 5;").watch(), -1);
        Check.due("the one day", Check.told("day a wet worth 1 guard 0;thief t skill 0 sack 1;").watch(), 0);
        // The most that any one could take then, whoever it is.
        Check.due("another one takes as much", Check.told("day a wet worth 9 guard 0;day b wet worth 9 guard 5;"
                + "thief s skill 0 sack 9;thief t skill 5 sack 9;").watch(), -1);
        Check.due("another one takes less", Check.told("day a wet worth 9 guard 0;day b wet worth 9 guard 5;"
                + "thief s skill 0 sack 9;thief t skill 5 sack 8;").watch(), 0);
    }

    private static void watchLess() {
        Check.sentence(31, "leaves the least for the one THIEF who could take the most, if that is less than now");
        String thief = "thief t skill 5 sack 12;";
        Check.due("as much elsewhere", Check.told("day a wet worth 8 guard 0;day b wet worth 8 guard 5;" + thief).watch(), -1);
        Check.due("one less elsewhere", Check.told("day a wet worth 8 guard 0;day b wet worth 7 guard 5;" + thief).watch(), 0);
        Check.due("elsewhere it is not open", Check.told("day a wet worth 8 guard 0;day b wet worth 8 guard 6;" + thief).watch(), 0);
        Check.due("it is open nowhere", Check.told("day a wet worth 8 guard 6;day b wet worth 8 guard 6;" + thief).watch(), -1);
        Check.due("the one DAY is not open", Check.told("day a wet worth 8 guard 6;" + thief).watch(), -1);
        Check.due("the one DAY is open", Check.told("day a wet worth 8 guard 5;" + thief).watch(), 0);
    }

    private static void watchFirst() {
        Check.sentence(31, "if that is less than now; of equal ones the first");
        // Only one DAY can be the greatest: by each other one nothing is less.
        Check.due("the last", Check.told("day a wet worth 7 guard 0;day b wet worth 7 guard 0;day c wet worth 8 guard 0;"
                + "thief t skill 0 sack 12;").watch(), 2);
        Check.due("the first", Check.told("day a wet worth 8 guard 0;day b wet worth 7 guard 0;day c wet worth 7 guard 0;"
                + "thief t skill 0 sack 12;").watch(), 0);
        Check.due("none of equal ones", Check.told("day a wet worth 8 guard 0;day b wet worth 8 guard 0;day c wet worth 7 guard 0;"
                + "thief t skill 0 sack 12;").watch(), -1);
    }

    private static void watchNobody() {
        Check.sentence(31, "WATCH; NONE: none.");
        Check.due("nobody", new StolenHolidays().watch(), -1);
        Check.due("thieves alone", Check.told("thief t skill 9 sack 1;").watch(), -1);
        Check.due("days alone", Check.told("day a wet worth 1 guard 0;").watch(), -1);
        StolenHolidays x = Check.told("day a wet worth 2 guard 0;day b wet worth 9 guard 9;thief s skill 0 sack 1;"
                + "thief t skill 2 sack 1;");
        Check.due("a", x.watch(), 0);
        x.steal(0, 0);
        Check.due("t yet", x.watch(), 0);
        x.steal(1, 0);
        Check.due("both have a piece", x.watch(), -1);
        x.spend(1);
        Check.due("nothing is left", x.watch(), -1);
        x.steal(1, 1);
        Check.nights(x, 2);
        Check.due("t is caught, a is there again, s has none", x.watch(), -1);
        Check.nights(x, 2);
        Check.due("guarded by 0 again", x.watch(), 0);
    }

    private static void spree(String call, StolenHolidays x, int thief, int nights, int joy, int first) {
        Check.due(call + ", " + nights + " nights: joy", x.spree(thief, nights, 0), joy);
        Check.due(call + ", " + nights + " nights: first", x.spree(thief, nights, 1), first);
    }

    private static void spreeOthers() {
        Check.sentence(32, "SPREE, what 0: how much JOY, 1: the DAY (NONE: nothing first); -2: others, they could not STEAL.");
        StolenHolidays x = Twins.lived();
        for (int nights = 1; nights <= 5; nights++) {
            Check.due("what -1", x.spree(2, nights, -1), -2);
            Check.due("what 2", x.spree(2, nights, 2), -2);
        }
        for (int what = 0; what <= 1; what++) {
            Check.due("0 nights", x.spree(2, 0, what), -2);
            Check.due("6 nights", x.spree(2, 6, what), -2);
            Check.due("-1 nights", x.spree(2, -1, what), -2);
            Check.due("thief -1", x.spree(-1, 1, what), -2);
            Check.due("thief 3", x.spree(3, 1, what), -2);
            for (int wild : Check.WILD) {
                Check.due("thief " + wild, x.spree(wild, 1, what), -2);
                Check.due("nights " + wild, x.spree(2, wild, what), -2);
                Check.due("what " + wild, x.spree(2, 1, wild), -2);
            }
        }
        spree("the last one", x, 2, 1, 5, 1);
        Check.due("5 nights", x.spree(2, 5, 0) > 5, true);
        Check.due("nobody", new StolenHolidays().spree(0, 1, 0), -2);
    }

    private static void spreeCouldNot() {
        Check.sentence(32, "-2: others, they could not STEAL");
        StolenHolidays x = Check.told("day a feast worth 9 guard 1;thief t skill 0 sack 2;thief u skill 9 sack 2;");
        x.steal(0, 0);
        Check.due("caught for one night", x.spree(0, 5, 0), -2);
        Check.due("caught: first", x.spree(0, 5, 1), -2);
        x.night();
        spree("free", x, 0, 1, 0, -1);
        x.steal(1, 0);
        Check.due("with a piece", x.spree(1, 1, 0), -2);
        Check.nights(x, 3);
        Check.due("3 old", x.spree(1, 1, 0), -2);
        x.night();
        spree("it is gone", x, 1, 1, 2, 0);
    }

    private static void spreeNights() {
        Check.sentence(32, "of so many (1 to 5) NIGHTS: by each they STEAL from one DAY that is OPEN to them, and SPEND at once, or do"
                + " nothing, then it is NIGHT");
        StolenHolidays x = HandEdges.told("wet", 24, 0, 9, 3);
        for (int nights = 1; nights <= 5; nights++) {
            spree("always open", x, 0, nights, 3 * nights, 0);
        }
        // The guard is 2 more and 1 less a night: open on each other night, or two behind each.
        x = HandEdges.told("wet", 24, 0, 0, 3);
        int[] closed = {3, 3, 6, 6, 9};
        for (int nights = 1; nights <= 5; nights++) {
            spree("open by turns", x, 0, nights, closed[nights - 1], 0);
        }
        // Guards are 9 at most: from 8 it is 9, by the NIGHT 8 again; from 7 it takes two nights.
        for (int nights = 1; nights <= 5; nights++) {
            spree("guarded by 9", HandEdges.told("wet", 24, 9, 9, 3), 0, nights, 3 * nights, 0);
            spree("guarded by 8", HandEdges.told("wet", 24, 8, 8, 3), 0, nights, 3 * nights, 0);
            spree("guarded by 7", HandEdges.told("wet", 24, 7, 7, 3), 0, nights, closed[nights - 1], 0);
        }
        // 1 comes back a night.
        x = HandEdges.told("wet", 4, 0, 9, 12);
        for (int nights = 1; nights <= 5; nights++) {
            spree("what comes back", x, 0, nights, 3 + nights, 0);
        }
    }

    private static void spreeAtOnce() {
        Check.sentence(32, "and SPEND at once, or do nothing, then it is NIGHT: the most JOY that they can have by that");
        StolenHolidays x = HandEdges.told("sunday", 24, 0, 9, 3);
        spree("no guilt by what is spent at once", x, 0, 5, 15, 0);
        x.steal(0, 0);
        x.spend(0);
        Check.due("joy that is there", x.thief(0, 8), 3);
        spree("does not count", x, 0, 1, 3, 0);
        x = HandEdges.told("wet", 24, 0, 9, 12);
        spree("wet ones are spent whole", x, 0, 2, 24, 0);
    }

    private static void spreeGuilt() {
        Check.sentence(32, "the most JOY that they can have by that");
        StolenHolidays x = Check.told("day s sunday worth 24 guard 0;day p plain worth 2 guard 0;thief t skill 9 sack 5;");
        x.steal(0, 0);
        Check.nights(x, 2);
        x.sell(0);
        Check.due("guilt", x.thief(0, 6), 2);
        // 5 - 2, or 2 - 2.
        spree("guilt is taken off", x, 0, 1, 3, 0);
        // 3 + 5, or 0 + 5.
        spree("once", x, 0, 2, 8, 0);
        x.steal(0, 0);
        Check.nights(x, 5);
        x.sell(0);
        Check.due("more guilt", x.thief(0, 6), 7);
        spree("0 at least, of equal ones the first", x, 0, 1, 0, 0);
        // Either first, then 5.
        spree("the guilt is gone by it", x, 0, 2, 5, 0);
    }

    private static void spreeFirstRow() {
        Check.sentence(32, "of equal ones the first row (of DAYS; nothing behind all): from which DAY first");
        StolenHolidays x = Check.told("day a wet worth 4 guard 1;day b wet worth 5 guard 0;day c wet worth 5 guard 0;"
                + "thief t skill 0 sack 9;thief u skill 9 sack 9;thief v skill 9 sack 4;");
        spree("b and c alike", x, 0, 1, 5, 1);
        spree("b, c", x, 0, 2, 10, 1);
        spree("b ahead of c", x, 1, 1, 5, 1);
        spree("b, c by u", x, 1, 2, 10, 1);
        spree("a, b, c", x, 1, 3, 14, 0);
        spree("a holds as much", x, 2, 1, 4, 0);
        // The second night a is closed: nothing then, or nothing first, is the same.
        x = Check.told("day a wet worth 5 guard 0;thief s skill 9 sack 4;thief t skill 0 sack 2;");
        x.steal(0, 0);
        Check.nights(x, 2);
        spree("3 there, guard 0", x, 1, 1, 2, 0);
        spree("then closed", x, 1, 2, 2, 0);
        spree("then open", x, 1, 3, 4, 0);
    }

    private static void spreeNothing() {
        Check.sentence(32, "1: the DAY (NONE: nothing first)");
        spree("closed for ever", HandEdges.told("wet", 9, 9, 8, 1), 0, 5, 0, -1);
        spree("no days", Check.told("thief t skill 8 sack 1;"), 0, 5, 0, -1);
        StolenHolidays x = Check.told("day a wet worth 5 guard 3;thief t skill 3 sack 9;thief u skill 9 sack 4;");
        x.steal(1, 0);
        // Guard 5 now, 3 behind two nights, when 3 are there.
        spree("closed", x, 0, 1, 0, -1);
        spree("closed", x, 0, 2, 0, -1);
        spree("open at last", x, 0, 3, 3, -1);
        // Behind three nights 4 are there: to wait brings more.
        spree("waiting", x, 0, 4, 4, -1);
        spree("waiting", x, 0, 5, 5, -1);
        x = HandEdges.told("wet", 2, 0, 9, 2);
        x.steal(0, 0);
        x.spend(0);
        // They could STEAL, were there any: nothing first, then 1.
        spree("nothing is left now", x, 0, 1, 0, -1);
        spree("nothing is left now", x, 0, 2, 1, -1);
    }

    private static final String HAND = "day a sunday worth 5 guard 3;day b plain worth 9 guard 1;day c wet worth 7 guard 4;"
            + "thief s skill 9 sack 6;thief t skill 4 sack 5;thief u skill 2 sack 8;";

    /** Told, and so much done that guards differ, something is missing and t has guilt. */
    private static StolenHolidays handed() {
        StolenHolidays x = new StolenHolidays();
        Check.readAlmanac(x, HAND);
        x.steal(1, 0);
        Check.nights(x, 3);
        x.sell(1);
        x.steal(0, 1);
        x.spend(0);
        x.steal(0, 2);
        return x;
    }

    /** The JOY of one row, its DAYS as digits, the first one the highest; -1: it can't be. */
    private static int joyOf(int row, int thief, int nights, int days) {
        StolenHolidays x = handed();
        int joy = 0;
        int rest = row;
        int place = 1;
        for (int n = 1; n < nights; n++) {
            place *= days + 1;
        }
        for (int n = 0; n < nights; n++) {
            int day = rest / place;
            rest %= place;
            place = Math.max(1, place / (days + 1));
            if (day < days) {
                if (x.haul(thief, day) <= 0) {
                    return -1;
                }
                x.steal(thief, day);
                joy += x.spend(thief);
            }
            x.night();
        }
        return joy;
    }

    private static void spreeByHand() {
        Check.sentence(32, "the most JOY that they can have by that; of equal ones the first row (of DAYS; nothing behind all): from"
                + " which DAY first");
        int days = 3;
        int rows = 1;
        for (int nights = 1; nights <= 5; nights++) {
            rows *= days + 1;
            for (int thief = 1; thief <= 2; thief++) {
                int most = -1;
                int best = -1;
                for (int row = 0; row < rows; row++) {
                    int joy = joyOf(row, thief, nights, days);
                    if (joy > most) {
                        most = joy;
                        best = row;
                    }
                }
                int first = best / (rows / (days + 1));
                spree("by hand, thief " + thief, handed(), thief, nights, most, first < days ? first : -1);
            }
        }
    }

    private static void allStays() {
        Check.sentence(32, "the most JOY that they can have by that");
        Twins.leavesAll("searching", x -> {
            x.gang(-1);
            x.gang(2);
            x.cover();
            x.watch();
            x.spree(2, 5, 0);
            x.spree(2, 5, 1);
            x.spree(0, 5, 0);
        });
    }
}
