/** Promises 14 to 28 at their edges: can .. slack. */
final class OutlookEdges {
    private static final int[] NO_THIEF = {-1, 3, 4, 8};
    private static final int[] NO_DAY = {-1, 3, 4, 8};
    private static final int[] TOO_FAR = {-1, 61, 62, -60};

    private OutlookEdges() {
    }

    static void run() {
        canBits();
        canNobody();
        canOthers();
        haulMuch();
        haulOthers();
        priceOthers();
        priceNow();
        allOfThem();
        richFirst();
        guiltyFirst();
        laterNights();
        laterOthers();
        guardsNights();
        guardsOthers();
        keepsNights();
        keepsOthers();
        freedNights();
        freedOthers();
        opensNow();
        opensBoth();
        opensNever();
        opensOthers();
        wholeNights();
        waitsTheFirst();
        waitsToThirty();
        waitsNone();
        waitsOthers();
        gladsNow();
        gladsOthers();
        slackFirst();
        slackOthers();
        allStays();
    }

    private static void canBits() {
        Check.sentence(14, "CAN of a THIEF: DAYS from which they could STEAL now without being CAUGHT (bits).");
        StringBuilder days = new StringBuilder();
        for (int d = 0; d < 8; d++) {
            days.append(AlmanacEdges.day("d" + (char) ('a' + d), 2, d + 1));
        }
        for (int skill = 0; skill <= 9; skill++) {
            StolenHolidays x = Check.told(days + "thief t skill " + skill + " sack 2;thief u skill 9 sack 2;");
            Check.due("skill " + skill, x.can(0), (1 << Math.min(8, skill)) - 1);
        }
        StolenHolidays x = Check.told("day a wet worth 2 guard 0;day b wet worth 2 guard 0;thief t skill 9 sack 1;"
                + "thief u skill 9 sack 1;thief v skill 9 sack 12;");
        x.steal(0, 0);
        Check.due("1 left", x.can(2), 3);
        x.steal(1, 0);
        Check.due("none left", x.can(2), 2);
    }

    private static void canNobody() {
        Check.sentence(14, "CAN of a THIEF: DAYS from which they could STEAL now without being CAUGHT (bits).");
        StolenHolidays x = Check.told("day a plain worth 9 guard 0;day b wet worth 9 guard 1;thief t skill 0 sack 1;");
        Check.due("free", x.can(0), 1);
        x.steal(0, 0);
        Check.due("with a piece", x.can(0), 0);
        Check.nights(x, 4);
        Check.due("it is gone", x.can(0), 1);
        x.steal(0, 1);
        Check.due("caught for 1", x.can(0), 0);
        x.night();
        Check.due("free again", x.can(0), 1);
        Check.due("no days", Check.told("thief t skill 9 sack 1;").can(0), 0);
    }

    private static void canOthers() {
        Check.sentence(14, "CAN, as bits; NONE: others.");
        StolenHolidays x = Twins.lived();
        for (int t : NO_THIEF) {
            Check.due("can " + t, x.can(t), -1);
        }
        for (int wild : Check.WILD) {
            Check.due("can " + wild, x.can(wild), -1);
        }
        Check.due("the last one", x.can(2), 7);
    }

    private static void haulMuch() {
        Check.sentence(15, "HAUL of a THIEF and a DAY: how much they would take now (0: they would be CAUGHT).");
        for (int guard = 0; guard <= 9; guard++) {
            for (int skill = 0; skill <= 9; skill++) {
                StolenHolidays x = HandEdges.told("wet", 1 + guard * 2, guard, skill, 5);
                int much = skill >= guard ? Math.min(5, 1 + guard * 2) : 0;
                Check.due("haul by " + skill + " from " + guard, x.haul(0, 0), much);
                Check.due("as they do", x.steal(0, 0), much);
            }
        }
    }

    private static void haulOthers() {
        Check.sentence(15, "HAUL; NONE: others, it can't be.");
        StolenHolidays x = Twins.lived();
        for (int t : NO_THIEF) {
            Check.due("by " + t, x.haul(t, 0), -1);
        }
        for (int d : NO_DAY) {
            Check.due("from " + d, x.haul(2, d), -1);
        }
        for (int wild : Check.WILD) {
            Check.due("by " + wild, x.haul(wild, 0), -1);
            Check.due("from " + wild, x.haul(2, wild), -1);
        }
        for (int d = 0; d < 3; d++) {
            Check.due("with a piece", x.haul(0, d), -1);
            Check.due("caught", x.haul(1, d), -1);
        }
        Check.due("it can be", x.haul(2, 0), 1);
        x.steal(2, 0);
        x.spend(2);
        Check.due("none left", x.haul(2, 0), -1);
        Check.due("of another", x.haul(2, 1), 5);
    }

    private static void priceOthers() {
        Check.sentence(16, "PRICE; NONE: others, no PIECE.");
        StolenHolidays x = Twins.lived();
        for (int t : NO_THIEF) {
            Check.due("price " + t, x.price(t), -1);
        }
        for (int wild : Check.WILD) {
            Check.due("price " + wild, x.price(wild), -1);
        }
        Check.due("a piece", x.price(0), 12);
        Check.due("caught", x.price(1), -1);
        Check.due("none", x.price(2), -1);
        x.sell(0);
        Check.due("sold", x.price(0), -1);
    }

    private static void priceNow() {
        Check.sentence(16, "PRICE of a THIEF: what their PIECE brings.");
        StolenHolidays x = Check.told("day a plain worth 24 guard 0;thief t skill 9 sack 12;pays much*10-date*20-old;");
        x.steal(0, 0);
        Check.due("99 at most", x.price(0), 99);
        x.night();
        Check.due("120 - 20 - 1", x.price(0), 99);
        x.night();
        Check.due("120 - 40 - 2", x.price(0), 78);
        Check.nights(x, 2);
        Check.due("110 - 80 - 4", x.price(0), 26);
        x.night();
        Check.due("0 at least", x.price(0), 0);
        Check.due("and sold for that", x.sell(0), 0);
    }

    private static void allOfThem() {
        Check.sentence(17, "ALL: how much all PIECES are, together.");
        Check.due("no thieves", new StolenHolidays().all(), 0);
        StolenHolidays x = Check.told("day a feast worth 24 guard 0;day b feast worth 24 guard 0;" + "thief s skill 9 sack 12;"
                + "thief t skill 9 sack 12;thief u skill 9 sack 12;thief v skill 9 sack 12;");
        Check.due("none", x.all(), 0);
        for (int t = 0; t < 4; t++) {
            x.steal(t, t / 2);
            Check.due("of " + (t + 1), x.all(), 12 * (t + 1));
        }
        x.spend(1);
        Check.due("without one", x.all(), 36);
        Check.nights(x, 3);
        Check.due("3 old", x.all(), 36);
        x.night();
        Check.due("4 old", x.all(), 0);
    }

    private static void richFirst() {
        Check.sentence(18, "RICH: the THIEF who has the most coins; GUILTY: the most guilt; of equal ones the first.");
        StolenHolidays x = Check.told("day a wet worth 24 guard 0;thief s skill 9 sack 1;thief t skill 9 sack 2;"
                + "thief u skill 9 sack 2;thief v skill 9 sack 3;");
        Check.due("all have none", x.rich(), 0);
        int[] sells = {0, 2, 1, 3, 0, 0, 0};
        int[] want = {0, 2, 1, 3, 3, 0, 0};
        for (int i = 0; i < sells.length; i++) {
            x.steal(sells[i], 0);
            x.sell(sells[i]);
            Check.due("by the sale " + i, x.rich(), want[i]);
        }
        Check.sentence(18, "RICH; NONE: no THIEVES.");
        Check.due("nobody", new StolenHolidays().rich(), -1);
        Check.due("days alone", Check.told("day a wet worth 1 guard 0;").rich(), -1);
        Check.due("one thief", Check.told("thief t skill 0 sack 1;").rich(), 0);
    }

    private static void guiltyFirst() {
        Check.sentence(19, "GUILTY: the most guilt; of equal ones the first.");
        StolenHolidays x = Check.told("day a sunday worth 24 guard 0;thief s skill 9 sack 1;thief t skill 9 sack 2;"
                + "thief u skill 9 sack 2;");
        Check.due("all have none", x.guilty(), 0);
        x.steal(2, 0);
        x.night();
        Check.due("the third", x.guilty(), 2);
        x.steal(1, 0);
        x.sell(2);
        x.night();
        Check.due("as much: the first of them", x.guilty(), 1);
        x.night();
        Check.due("more", x.guilty(), 1);
        x.spend(1);
        Check.due("no guilt then", x.guilty(), 2);
        Check.sentence(19, "GUILTY; NONE: no THIEVES.");
        Check.due("nobody", new StolenHolidays().guilty(), -1);
        Check.due("days alone", Check.told("day a wet worth 1 guard 0;").guilty(), -1);
        Check.due("one thief", Check.told("thief t skill 0 sack 1;").guilty(), 0);
    }

    private static void laterNights() {
        Check.sentence(20, "LATER: how much is left of a DAY behind so many (0 to 60).");
        StolenHolidays x = Check.told("day a wet worth 24 guard 0;day b wet worth 1 guard 0;thief s skill 9 sack 12;"
                + "thief t skill 9 sack 12;");
        x.steal(0, 0);
        x.steal(1, 0);
        for (int n = 0; n <= 60; n++) {
            Check.due("a behind " + n, x.later(0, n), Math.min(24, n));
            Check.due("b behind " + n, x.later(1, n), 1);
        }
        for (int n = 0; n <= 26; n++) {
            Check.due("as it comes", x.day(0, 2), Math.min(24, n));
            x.night();
        }
    }

    private static void laterOthers() {
        Check.sentence(20, "LATER; NONE: others.");
        StolenHolidays x = Twins.lived();
        for (int n : TOO_FAR) {
            Check.due("behind " + n, x.later(0, n), -1);
        }
        for (int d : NO_DAY) {
            Check.due("of " + d, x.later(d, 0), -1);
        }
        for (int wild : Check.WILD) {
            Check.due("behind " + wild, x.later(0, wild), -1);
            Check.due("of " + wild, x.later(wild, 0), -1);
        }
        Check.due("behind 0", x.later(2, 0), 1);
        Check.due("behind 60", x.later(2, 60), 9);
    }

    private static void guardsNights() {
        Check.sentence(21, "GUARDS: how it is guarded behind so many (0 to 60).");
        for (int told = 0; told <= 9; told++) {
            StolenHolidays x = Check.told("day a wet worth 24 guard " + told + ";thief s skill 9 sack 1;thief t skill 9 sack 1;"
                    + "thief u skill 9 sack 1;thief v skill 9 sack 1;");
            for (int t = 0; t < 4; t++) {
                x.steal(t, 0);
            }
            int guard = Math.min(9, told + 8);
            for (int n = 0; n <= 60; n++) {
                Check.due("of " + told + " behind " + n, x.guards(0, n), Math.max(told, guard - n));
            }
        }
    }

    private static void guardsOthers() {
        Check.sentence(21, "GUARDS; NONE: others.");
        StolenHolidays x = Twins.lived();
        for (int n : TOO_FAR) {
            Check.due("behind " + n, x.guards(0, n), -1);
        }
        for (int d : NO_DAY) {
            Check.due("of " + d, x.guards(d, 0), -1);
        }
        for (int wild : Check.WILD) {
            Check.due("behind " + wild, x.guards(0, wild), -1);
            Check.due("of " + wild, x.guards(wild, 0), -1);
        }
        Check.due("behind 0", x.guards(1, 0), 7);
        Check.due("behind 60", x.guards(1, 60), 5);
    }

    private static void keepsNights() {
        Check.sentence(22, "KEEPS: how much the PIECE of a THIEF is behind so many (0 to 60).");
        for (String kind : new String[] {"plain", "sunday", "wet", "feast"}) {
            for (int ahead = 0; ahead <= 3; ahead++) {
                StolenHolidays x = HandEdges.told(kind, 24, 0, 9, 12);
                x.steal(0, 0);
                Check.nights(x, ahead);
                int[] keeps = new int[61];
                for (int n = 0; n <= 60; n++) {
                    keeps[n] = x.keeps(0, n);
                }
                for (int n = 0; n <= 60; n++) {
                    Check.due(kind + " as it comes, " + n, keeps[n], x.thief(0, 2));
                    x.night();
                }
            }
        }
    }

    private static void keepsOthers() {
        Check.sentence(22, "KEEPS (0: none); NONE: others.");
        StolenHolidays x = Twins.lived();
        for (int n : TOO_FAR) {
            Check.due("behind " + n, x.keeps(0, n), -1);
            Check.due("of none behind " + n, x.keeps(2, n), -1);
        }
        for (int t : NO_THIEF) {
            Check.due("of " + t, x.keeps(t, 0), -1);
        }
        for (int wild : Check.WILD) {
            Check.due("behind " + wild, x.keeps(0, wild), -1);
            Check.due("of " + wild, x.keeps(wild, 0), -1);
        }
        Check.due("behind 0", x.keeps(0, 0), 4);
        Check.due("behind 60", x.keeps(0, 60), 4);
        Check.due("none", x.keeps(2, 0), 0);
        Check.due("none behind 60", x.keeps(2, 60), 0);
        Check.due("caught", x.keeps(1, 0), 0);
        x.sell(0);
        Check.due("sold", x.keeps(0, 0), 0);
        Check.due("sold, later", x.keeps(0, 9), 0);
    }

    private static void freedNights() {
        Check.sentence(23, "FREED: behind how many (0 to 9) a THIEF is FREE.");
        for (int guard = 0; guard <= 9; guard++) {
            StolenHolidays x = HandEdges.told("wet", 24, guard, 0, 1);
            x.steal(0, 0);
            for (int n = 0; n <= 10; n++) {
                Check.due("by " + guard + " behind " + n, x.freed(0), Math.max(0, guard - n));
                x.night();
            }
        }
    }

    private static void freedOthers() {
        Check.sentence(23, "FREED; NONE: others.");
        StolenHolidays x = Twins.lived();
        for (int t : NO_THIEF) {
            Check.due("freed " + t, x.freed(t), -1);
        }
        for (int wild : Check.WILD) {
            Check.due("freed " + wild, x.freed(wild), -1);
        }
        Check.due("free", x.freed(2), 0);
        Check.due("free, with a piece", x.freed(0), 0);
        Check.due("caught", x.freed(1), 4);
    }

    private static void opensNow() {
        Check.sentence(24, "OPENS of a THIEF and a DAY: behind how many (0 to 60) they are FREE and it is OPEN to them.");
        for (int guard = 0; guard <= 9; guard++) {
            for (int skill = 0; skill <= 9; skill++) {
                StolenHolidays x = HandEdges.told("wet", 24, guard, skill, 1);
                Check.due("by " + skill + " of " + guard, x.opens(0, 0), skill >= guard ? 0 : -1);
            }
        }
        StolenHolidays x = Twins.lived();
        Check.due("with a piece, too", x.opens(0, 0), 0);
    }

    private static void opensBoth() {
        Check.sentence(24, "behind how many (0 to 60) they are FREE and it is OPEN to them");
        for (int skill = 0; skill <= 9; skill++) {
            StolenHolidays x = Check.told("day a wet worth 4 guard 0;day b wet worth 9 guard 9;thief s skill 9 sack 1;"
                    + "thief t skill 9 sack 1;thief u skill 9 sack 1;thief v skill " + skill + " sack 1;");
            for (int t = 0; t < 3; t++) {
                x.steal(t, 0);
            }
            Check.due("guard 6, skill " + skill, x.opens(3, 0), Math.max(0, 6 - skill));
            x.steal(3, 1);
            Check.due("caught for " + (9 - skill), x.opens(3, 0), Math.max(9 - skill, 6 - skill));
        }
        StolenHolidays x = HandEdges.told("wet", 1, 0, 9, 1);
        Check.due("any is left", x.opens(0, 0), 0);
        x.steal(0, 0);
        Check.due("none is left", x.opens(0, 0), 1);
    }

    private static void opensNever() {
        Check.sentence(24, "OPENS; NONE: others, not by 60.");
        StolenHolidays x = Check.told("day a wet worth 9 guard 8;day b wet worth 9 guard 9;thief s skill 8 sack 1;"
                + "thief t skill 7 sack 1;");
        Check.due("as told", x.opens(0, 0), 0);
        Check.due("one more", x.opens(0, 1), -1);
        Check.due("one less", x.opens(1, 0), -1);
        x.steal(1, 1);
        Check.due("one less, caught", x.opens(1, 0), -1);
    }

    private static void opensOthers() {
        Check.sentence(24, "OPENS; NONE: others, not by 60.");
        StolenHolidays x = Twins.lived();
        for (int t : NO_THIEF) {
            Check.due("of " + t, x.opens(t, 0), -1);
        }
        for (int d : NO_DAY) {
            Check.due("from " + d, x.opens(2, d), -1);
        }
        for (int wild : Check.WILD) {
            Check.due("of " + wild, x.opens(wild, 0), -1);
            Check.due("from " + wild, x.opens(2, wild), -1);
        }
        Check.due("the last of both", x.opens(2, 2), 0);
    }

    private static void wholeNights() {
        Check.sentence(25, "WHOLE: behind how many (0 to 60) all DAYS have their worth.");
        Check.due("no days", new StolenHolidays().whole(), 0);
        StolenHolidays x = Check.told("day a wet worth 24 guard 0;day b wet worth 1 guard 0;day c wet worth 5 guard 0;"
                + "thief s skill 9 sack 12;thief t skill 9 sack 12;thief u skill 9 sack 1;thief v skill 9 sack 4;");
        Check.due("now", x.whole(), 0);
        x.steal(2, 1);
        Check.due("by b", x.whole(), 1);
        x.steal(3, 2);
        Check.due("by c", x.whole(), 4);
        x.steal(0, 0);
        Check.due("by half of a", x.whole(), 12);
        x.steal(1, 0);
        for (int n = 24; n >= 0; n--) {
            Check.due("as it comes", x.whole(), n);
            x.night();
        }
        Check.due("whole", x.whole(), 0);
    }

    private static void waits(String kind, String law, int ahead, int when, int paid) {
        StolenHolidays x = Check.told("day a " + kind + " worth 24 guard 0;thief t skill 9 sack 6;pays " + law + ";");
        x.steal(0, 0);
        Check.nights(x, ahead);
        Check.due(kind + ", " + law + ": when", x.waits(0, 0), when);
        Check.due(kind + ", " + law + ": what", x.waits(0, 1), paid);
    }

    private static void waitsTheFirst() {
        Check.sentence(26, "their PIECE has the greatest PRICE (none is 0); of equal ones the first: how many; the PRICE.");
        waits("sunday", "7", 0, 0, 7);
        waits("sunday", "7*(4<old)", 0, 5, 7);
        waits("sunday", "(old=3)+(old=5)", 0, 3, 1);
        waits("sunday", "(old=3)+2*(old=5)", 0, 5, 2);
        waits("sunday", "old*10", 0, 10, 99);
        waits("sunday", "0-old", 0, 0, 0);
        waits("sunday", "old*10", 4, 6, 99);
        waits("sunday", "date*10", 4, 6, 99);
        waits("plain", "old*much", 0, 4, 20);
    }

    private static void waitsToThirty() {
        Check.sentence(26, "WAITS of a THIEF: behind how many (0 to 30)");
        waits("sunday", "old", 0, 30, 30);
        waits("sunday", "old=29", 0, 29, 1);
        waits("sunday", "old=30", 0, 30, 1);
        waits("sunday", "old=31", 0, 0, 0);
        waits("sunday", "old=31", 1, 30, 1);
        waits("sunday", "old=32", 1, 0, 0);
        waits("sunday", "date", 3, 30, 33);
        waits("sunday", "(old=0)+(old=30)*9", 0, 30, 9);
    }

    private static void waitsNone() {
        Check.sentence(26, "their PIECE has the greatest PRICE (none is 0)");
        // What is none has no PRICE, though the law would tell one.
        waits("plain", "old", 0, 8, 8);
        waits("wet", "old", 0, 2, 2);
        waits("feast", "old", 0, 3, 3);
        waits("wet", "99*(much=0)", 0, 0, 0);
        waits("feast", "old=4", 0, 0, 0);
        waits("feast", "date*9", 2, 1, 27);
    }

    private static void waitsOthers() {
        Check.sentence(26, "WAITS, what 0: how many, 1: the PRICE; NONE: others, no PIECE.");
        StolenHolidays x = Twins.lived();
        for (int what = 0; what <= 1; what++) {
            for (int t : NO_THIEF) {
                Check.due("of " + t, x.waits(t, what), -1);
            }
            Check.due("caught", x.waits(1, what), -1);
            Check.due("no piece", x.waits(2, what), -1);
        }
        Check.due("what -1", x.waits(0, -1), -1);
        Check.due("what 2", x.waits(0, 2), -1);
        for (int wild : Check.WILD) {
            Check.due("of " + wild, x.waits(wild, 0), -1);
            Check.due("what " + wild, x.waits(0, wild), -1);
        }
        Check.due("how many", x.waits(0, 0), 0);
        Check.due("the price", x.waits(0, 1), 12);
    }

    private static void gladsNow() {
        Check.sentence(27, "GLADS of a THIEF: behind how many (0 to 30), they being FREE, it would give the most JOY; of equal ones"
                + " the first: how many; how much.");
        for (int nights = 0; nights <= 11; nights++) {
            StolenHolidays x = HandEdges.told("sunday", 24, 0, 9, 6);
            x.steal(0, 0);
            Check.nights(x, nights);
            Check.due("when", x.glads(0, 0), 0);
            int joy = x.glads(0, 1);
            Check.due("how much", joy, Math.max(0, 6 - Math.min(9, nights)));
            Check.due("as it is spent", x.spend(0), joy);
        }
        for (String kind : new String[] {"plain", "wet", "feast"}) {
            StolenHolidays x = HandEdges.told(kind, 24, 0, 9, 6);
            x.steal(0, 0);
            Check.due(kind + ": when", x.glads(0, 0), 0);
            Check.due(kind + ": how much", x.glads(0, 1), 6);
        }
    }

    private static void gladsOthers() {
        Check.sentence(27, "GLADS, what 0: how many, 1: how much; NONE: others, no PIECE.");
        StolenHolidays x = Twins.lived();
        for (int what = 0; what <= 1; what++) {
            for (int t : NO_THIEF) {
                Check.due("of " + t, x.glads(t, what), -1);
            }
            Check.due("caught", x.glads(1, what), -1);
            Check.due("no piece", x.glads(2, what), -1);
        }
        Check.due("what -1", x.glads(0, -1), -1);
        Check.due("what 2", x.glads(0, 2), -1);
        for (int wild : Check.WILD) {
            Check.due("of " + wild, x.glads(wild, 0), -1);
            Check.due("what " + wild, x.glads(0, wild), -1);
        }
        Check.due("how many", x.glads(0, 0), 0);
        Check.due("how much", x.glads(0, 1), 3);
    }

    private static void slackFirst() {
        Check.sentence(28, "SLACK: the DAY whose guard is the least behind so many (0 to 60); of equal ones the first.");
        StolenHolidays x = Check.told("day a wet worth 9 guard 3;day b wet worth 9 guard 2;day c wet worth 9 guard 1;"
                + "thief s skill 9 sack 9;thief t skill 9 sack 9;");
        Check.due("the least", x.slack(0), 2);
        x.steal(0, 2);
        Check.due("guards 3, 2, 3", x.slack(0), 1);
        Check.due("guards 3, 2, 2: the first", x.slack(1), 1);
        Check.due("guards 3, 2, 1, though none is left now", x.slack(2), 2);
        Check.due("behind 60", x.slack(60), 2);
        x.steal(1, 1);
        Check.due("guards 3, 4, 3: the first", x.slack(0), 0);
        Check.due("guards 3, 3, 2", x.slack(1), 2);
        x = Check.told(AlmanacEdges.day("a", 1, 9) + AlmanacEdges.day("b", 1, 9));
        Check.due("9 both", x.slack(60), 0);
        Check.due("the eighth", Check.told(AlmanacEdges.days(8).replaceAll("guard .;$", "guard 0;")
                .replace("guard 0;day", "guard 1;day")).slack(0), 7);
    }

    private static void slackOthers() {
        Check.sentence(28, "SLACK; NONE: others, no DAYS.");
        StolenHolidays x = Twins.lived();
        for (int n : TOO_FAR) {
            Check.due("behind " + n, x.slack(n), -1);
        }
        for (int wild : Check.WILD) {
            Check.due("behind " + wild, x.slack(wild), -1);
        }
        Check.due("behind 0", x.slack(0), 2);
        Check.due("behind 60", x.slack(60), 2);
        Check.due("no days", new StolenHolidays().slack(0), -1);
        Check.due("thieves alone", Check.told("thief t skill 1 sack 1;").slack(60), -1);
    }

    private static void allStays() {
        Check.sentence(28, "(NIGHTS going by, nothing else being done.)");
        Twins.leavesAll("asking", x -> {
            x.can(2);
            x.haul(2, 0);
            x.price(0);
            x.all();
            x.rich();
            x.guilty();
            x.later(0, 60);
            x.guards(1, 60);
            x.keeps(0, 60);
            x.freed(1);
            x.opens(1, 1);
            x.whole();
            x.waits(0, 0);
            x.glads(0, 1);
            x.slack(60);
        });
    }
}
