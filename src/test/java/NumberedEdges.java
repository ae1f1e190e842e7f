/**
 * DAYS and THIEVES "numbered as told": the first and only ones of a small ALMANAC answer as the same ones do at any number of a
 * full one; and nothing is left of a greater ALMANAC in a smaller one.
 */
final class NumberedEdges {
    private static final String LAW = "pays much*5+old*3-date*2+sort;";
    private static final String[] KINDS = {"plain", "sunday", "wet", "feast"};

    private NumberedEdges() {
    }

    static void run() {
        atEachNumber();
        nothingOfAGreaterOne();
        fullQuestions();
    }

    private static String small(String kind) {
        return "day one " + kind + " worth 14 guard 3;thief two skill 5 sack 6;" + LAW;
    }

    /** All others can do nothing: THIEVES without skill, DAYS that are guarded by 9. */
    private static String full(String kind, int day, int thief) {
        StringBuilder text = new StringBuilder();
        for (int d = 0; d < 8; d++) {
            text.append(d == day ? "day one " + kind + " worth 14 guard 3;"
                    : "day d" + (char) ('a' + d) + " wet worth 24 guard 9;");
        }
        for (int t = 0; t < 4; t++) {
            text.append(t == thief ? "thief two skill 5 sack 6;" : "thief t" + (char) ('a' + t) + " skill 0 sack 12;");
        }
        return text + LAW;
    }

    private static void atEachNumber() {
        for (int day = 0; day < 8; day++) {
            for (int thief = 0; thief < 4; thief++) {
                for (String kind : KINDS) {
                    StolenHolidays x = new StolenHolidays();
                    StolenHolidays y = new StolenHolidays();
                    Check.sentence(3, "day: 8 at most, numbered as told");
                    Check.due("small", Check.readAlmanac(x, small(kind)), 0);
                    Check.due("full", Check.readAlmanac(y, full(kind, day, thief)), 0);
                    live(x, y, day, thief);
                }
            }
        }
    }

    private static void live(StolenHolidays x, StolenHolidays y, int day, int thief) {
        same(x, y, day, thief);
        Check.sentence(7, "STEAL: how much (0: CAUGHT)");
        Check.due("steal", y.steal(thief, day), x.steal(0, 0));
        same(x, y, day, thief);
        x.night();
        Check.sentence(11, "NIGHT: THIEVES who have a PIECE then, as bits.");
        Check.due("night", y.night(), x.count(5) << thief);
        same(x, y, day, thief);
        Check.sentence(8, "SELL: the PRICE");
        Check.due("sell", y.sell(thief), x.sell(0));
        same(x, y, day, thief);
        x.steal(0, 0);
        y.steal(thief, day);
        x.night();
        y.night();
        same(x, y, day, thief);
        Check.sentence(9, "SPEND: how much more JOY");
        Check.due("spend", y.spend(thief), x.spend(0));
        x.steal(0, 0);
        y.steal(thief, day);
        same(x, y, day, thief);
        x.undo();
        y.undo();
        same(x, y, day, thief);
    }

    private static void same(StolenHolidays x, StolenHolidays y, int day, int thief) {
        sameFacts(x, y, day, thief);
        sameOutlook(x, y, day, thief);
        sameSearches(x, y, day, thief);
    }

    private static void sameFacts(StolenHolidays x, StolenHolidays y, int day, int thief) {
        Check.sentence(5, "Of a DAY, what 0: KIND");
        for (int what = 0; what <= 4; what++) {
            Check.due("day " + day + ", " + what, y.day(day, what), x.day(0, what));
        }
        Check.sentence(6, "Of a THIEF, what 0: skill");
        for (int what = 0; what <= 8; what++) {
            Check.due("thief " + thief + ", " + what, y.thief(thief, what), x.thief(0, what));
        }
        Check.sentence(40, "3: what is left of all DAYS, together, 4: who is CAUGHT, as bits, 5: who has a PIECE, as bits, 6: coins of"
                + " all, together, 7: JOY of all, together");
        Check.due("left of all", y.count(3), x.count(3) + 7 * 24);
        Check.due("caught", y.count(4), x.count(4) << thief);
        Check.due("with a piece", y.count(5), x.count(5) << thief);
        Check.due("coins", y.count(6), x.count(6));
        Check.due("joy", y.count(7), x.count(7));
    }

    private static void sameOutlook(StolenHolidays x, StolenHolidays y, int day, int thief) {
        Check.sentence(14, "CAN, as bits");
        Check.due("can", y.can(thief), x.can(0) << day);
        Check.sentence(15, "HAUL; NONE: others, it can't be.");
        Check.due("haul", y.haul(thief, day), x.haul(0, 0));
        Check.sentence(16, "PRICE; NONE: others, no PIECE.");
        Check.due("price", y.price(thief), x.price(0));
        Check.sentence(17, "ALL: how much all PIECES are, together.");
        Check.due("all", y.all(), x.all());
        Check.sentence(18, "RICH: the THIEF who has the most coins");
        Check.due("rich", y.rich(), x.count(6) > 0 ? thief : 0);
        Check.sentence(19, "GUILTY: the most guilt");
        Check.due("guilty", y.guilty(), x.thief(0, 6) > 0 ? thief : 0);
        for (int nights = 0; nights <= 2; nights++) {
            Check.sentence(20, "LATER: how much is left of a DAY behind so many");
            Check.due("later", y.later(day, nights), x.later(0, nights));
            Check.sentence(21, "GUARDS: how it is guarded behind so many");
            Check.due("guards", y.guards(day, nights), x.guards(0, nights));
            Check.sentence(22, "KEEPS: how much the PIECE of a THIEF is behind so many");
            Check.due("keeps", y.keeps(thief, nights), x.keeps(0, nights));
            Check.sentence(28, "SLACK: the DAY whose guard is the least behind so many");
            Check.due("slack", y.slack(nights), day);
        }
        Check.sentence(23, "FREED: behind how many (0 to 9) a THIEF is FREE.");
        Check.due("freed", y.freed(thief), x.freed(0));
        Check.sentence(24, "OPENS of a THIEF and a DAY");
        Check.due("opens", y.opens(thief, day), x.opens(0, 0));
        Check.sentence(25, "WHOLE: behind how many (0 to 60) all DAYS have their worth.");
        Check.due("whole", y.whole(), x.whole());
        for (int what = 0; what <= 1; what++) {
            Check.sentence(26, "WAITS, what 0: how many, 1: the PRICE");
            Check.due("waits", y.waits(thief, what), x.waits(0, what));
            Check.sentence(27, "GLADS, what 0: how many, 1: how much");
            Check.due("glads", y.glads(thief, what), x.glads(0, what));
        }
    }

    private static int numbered(int answer, int number) {
        return answer < 0 ? answer : number;
    }

    private static void sameSearches(StolenHolidays x, StolenHolidays y, int day, int thief) {
        Check.sentence(29, "i: the DAY of the i-th THIEF (NONE: none)");
        Check.due("gang", y.gang(-1), x.gang(-1));
        for (int t = 0; t < 4; t++) {
            Check.due("gang " + t, y.gang(t), t == thief ? numbered(x.gang(0), day) : -1);
        }
        Check.sentence(30, "COVER; NONE: by none.");
        Check.due("cover", y.cover(), x.cover());
        Check.sentence(31, "WATCH; NONE: none.");
        Check.due("watch", y.watch(), numbered(x.watch(), day));
        Check.sentence(32, "SPREE, what 0: how much JOY, 1: the DAY (NONE: nothing first)");
        Check.due("spree", y.spree(thief, 3, 0), x.spree(0, 3, 0));
        Check.due("spree, first", y.spree(thief, 3, 1), numbered(x.spree(0, 3, 1), day));
        Check.sentence(36, "CHANCE, by odds (0 to 10)");
        Check.due("chance", y.chance(thief, day, 2, 4), x.chance(0, 0, 2, 4));
        Check.sentence(34, "WHO, as bits.");
        Check.due("who", y.who(), 15);
    }

    /** By the full ALMANACS that were told ahead of it, a small one answers no other way. */
    private static void nothingOfAGreaterOne() {
        Check.sentence(3, "Without a FAULT an ALMANAC is the ALMANAC from then on");
        String book = "day one sunday worth 3 guard 2;thief two skill 5 sack 2;thief three skill 1 sack 9;";
        StringBuilder great = new StringBuilder();
        for (int d = 0; d < 8; d++) {
            great.append("day d").append((char) ('a' + d)).append(" feast worth 24 guard 0;");
        }
        for (int t = 0; t < 4; t++) {
            great.append("thief t").append((char) ('a' + t)).append(" skill 9 sack 12;");
        }
        for (int turn = 0; turn < 8; turn++) {
            StolenHolidays x = new StolenHolidays();
            // Twice, as what is read may be held in two places by turns.
            for (int i = 0; i < 2; i++) {
                Check.readAlmanac(x, great + "pays 99;");
                x.steal(0, 1);
                x.steal(2, 7);
                x.steal(3, 7);
                x.gang(-1);
                x.spree(1, 5, 0);
                x.night();
            }
            Check.due("the small one", Check.readAlmanac(x, book), 0);
            StolenHolidays y = Check.told(book);
            if (turn % 4 > 0) {
                Check.due("steal", x.steal(0, 0), y.steal(0, 0));
            }
            if (turn % 4 > 1) {
                Check.due("night", x.night(), y.night());
            }
            if (turn % 4 > 2) {
                Check.due("spend", x.spend(0), y.spend(0));
            }
            if (turn < 4) {
                sameNumbers(x, y);
            } else {
                sameQuestions(x, y);
            }
        }
    }

    private static void sameNumbers(StolenHolidays x, StolenHolidays y) {
        for (int i = 0; i < 8; i++) {
            Check.due("day " + i, x.day(i, 1), y.day(i, 1));
            Check.due("thief " + i, x.thief(i, 1), y.thief(i, 1));
            Check.due("steal nothing", x.haul(0, i), y.haul(0, i));
            Check.due("can " + i, x.can(i), y.can(i));
            Check.due("later " + i, x.later(i, 1), y.later(i, 1));
            Check.due("guards " + i, x.guards(i, 1), y.guards(i, 1));
            Check.due("keeps " + i, x.keeps(i, 1), y.keeps(i, 1));
            Check.due("freed " + i, x.freed(i), y.freed(i));
            Check.due("opens " + i, x.opens(0, i), y.opens(0, i));
            Check.due("waits " + i, x.waits(i, 1), y.waits(i, 1));
            Check.due("glads " + i, x.glads(i, 1), y.glads(i, 1));
            Check.due("chance " + i, x.chance(0, i, 1, 5), y.chance(0, i, 1, 5));
            Check.due("price " + i, x.price(i), y.price(i));
        }
        for (int what = 0; what <= 11; what++) {
            Check.due("count " + what, x.count(what), y.count(what));
        }
    }

    private static void sameQuestions(StolenHolidays x, StolenHolidays y) {
        Check.due("all", x.all(), y.all());
        Check.due("rich", x.rich(), y.rich());
        Check.due("guilty", x.guilty(), y.guilty());
        Check.due("whole", x.whole(), y.whole());
        Check.due("slack", x.slack(0), y.slack(0));
        for (int what = -1; what < 4; what++) {
            Check.due("gang " + what, x.gang(what), y.gang(what));
            Check.due("judged " + what, x.judged(what), y.judged(what));
        }
        Check.due("cover", x.cover(), y.cover());
        Check.due("watch", x.watch(), y.watch());
        for (int nights = 1; nights <= 5; nights++) {
            Check.due("spree " + nights, x.spree(1, nights, 0), y.spree(1, nights, 0));
            Check.due("spree " + nights, x.spree(0, nights, 1), y.spree(0, nights, 1));
        }
        Check.due("ask", x.ask(), y.ask());
        Check.due("who", x.who(), y.who());
        Check.due("see", x.see(0, 0, true), y.see(0, 0, true));
        Check.due("who", x.who(), y.who());
        for (int seed = 0; seed < 9; seed++) {
            for (int what = 0; what <= 2; what++) {
                Check.due("years", x.years(seed, 50, what), y.years(seed, 50, what));
            }
        }
        Check.due("night", x.night(), y.night());
    }

    /** Eight DAYS and four THIEVES: the last of each counts. */
    private static void fullQuestions() {
        String days = AlmanacEdges.days(8);
        StolenHolidays x = Check.told(days + AlmanacEdges.thieves(4));
        Check.sentence(25, "WHOLE: behind how many (0 to 60) all DAYS have their worth.");
        Check.due("now", x.whole(), 0);
        x.steal(3, 6);
        Check.due("four of the seventh", x.whole(), 4);
        x.steal(0, 7);
        Check.due("one of the eighth", x.count(3), 31);
        Check.sentence(35, "ASK, as 8 * the NIGHTS + the DAY");
        x = Check.told(days + "thief s skill 6 sack 1;thief t skill 6 sack 1;thief u skill 7 sack 1;thief v skill 7 sack 1;");
        Check.due("the eighth parts them", x.ask(), 7);
        x.see(7, 30, false);
        Check.sentence(34, "WHO, as bits.");
        Check.due("the first two", x.who(), 3);
        Check.sentence(14, "CAN, as bits");
        Check.due("seven days", x.can(0), 127);
        Check.due("eight days", x.can(3), 255);
        Check.sentence(30, "COVER; NONE: by none.");
        Check.due("8 + 7 + .. + 1", x.cover(), 36);
        Check.sentence(31, "WATCH; NONE: none.");
        Check.due("a sack of 1", x.watch(), -1);
        x = Check.told(days + "thief s skill 6 sack 1;thief t skill 6 sack 1;thief u skill 7 sack 1;thief v skill 7 sack 12;");
        Check.due("the eighth, the fourth", x.watch(), 7);
        Check.sentence(32, "SPREE, what 0: how much JOY, 1: the DAY (NONE: nothing first)");
        Check.due("all of the eighth", x.spree(3, 1, 0), 8);
        Check.due("the eighth", x.spree(3, 1, 1), 7);
        Check.due("8 + 7 + 6 + 5 + 4", x.spree(3, 5, 0), 30);
        Check.due("the least of these first", x.spree(3, 5, 1), 3);
    }
}
