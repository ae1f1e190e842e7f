/** Promises 1 to 4: a new object, feed, almanac, year. */
public final class TapeTest {
    private static final String DAY = "day a wet worth 1 guard 0;";

    public static void main(String[] args) {
        newObject();
        feeding();
        fullTape();
        goodAlmanacs();
        almanacFaults();
        tokenFaults();
        nameFaults();
        tooMany();
        laws();
        lawDepth();
        goodYears();
        yearFaults();
        faultsLeaveAll();
        almanacBeginsAnew();
        Check.end();
    }

    private static void newObject() {
        StolenHolidays x = new StolenHolidays();
        Check.due("NONE", StolenHolidays.NONE, -1);
        for (int what = 0; what <= 11; what++) {
            Check.due("new: count " + what, x.count(what), 0);
        }
        Check.due("new: day", x.day(0, 0), -1);
        Check.due("new: thief", x.thief(0, 0), -2);
        Check.due("new: undo", x.undo(), false);
        Check.due("new: mark 0", x.mark(0, true), false);
        Check.due("new: judged 1", x.judged(1), -1);
    }

    private static void feeding() {
        StolenHolidays x = new StolenHolidays();
        Check.due("feed nothing", x.feed(0, 0, 0), 0);
        Check.due("feed all out", x.feed(-1, 0x7f80ff1f09000b0dL, Long.MIN_VALUE), 0);
        Check.due("feed the edges", x.feed(0x0a207e1f7f000000L, 0, 0), 3);
        Check.due("feed more", x.feed(Check.packed("abcdefgh", 0), Check.packed("abcdefgh", 0), 0x61), 20);
        Check.due("count 11", x.count(11), 20);
        x.almanac();
        Check.due("taken", x.count(11), 0);
        // The highest byte first, a ahead of b ahead of c.
        Check.due("order", x.feed(Check.packed("day a we", 0), Check.packed("t worth ", 0),
                Check.packed("1guard0;", 0)), 24);
        Check.due("order read", x.almanac(), 0);
        Check.due("order kind", x.day(0, 0), 2);
    }

    private static void fullTape() {
        StolenHolidays x = new StolenHolidays();
        String line = DAY;
        Check.feed(x, line);
        Check.feed(x, " ".repeat(1000 - line.length() - 1));
        Check.due("999 signs", x.count(11), 999);
        Check.due("one more of three", x.feed(0, 0, 0x3b3b3b), 1000);
        Check.due("none more", x.feed(0, 0x61, 0x62), 1000);
        Check.due("fault at the last sign", x.almanac(), 1 + 16 * 999);
        Check.feed(x, line);
        Check.feed(x, "\n".repeat(1200));
        Check.due("full", x.count(11), 1000);
        Check.due("beyond left out", x.almanac(), 0);
        Check.feed(x, line + " ".repeat(1000 - line.length() - 1) + "day");
        Check.due("the end of a full one", x.almanac(), 1 + 16 * 999);
        Check.feed(x, line + " ".repeat(1000 - line.length() - 4) + "pays");
        Check.due("the end is at the length", x.almanac(), 1 + 16 * 1000);
    }

    private static void almanac(String text, int want) {
        Check.due("almanac of '" + text + "'", Check.readAlmanac(new StolenHolidays(), text), want);
    }

    private static void fault(String text, int kind, int place) {
        almanac(text, kind + 16 * place);
    }

    private static void goodAlmanacs() {
        almanac("", 0);
        almanac("  \n ", 0);
        almanac(DAY, 0);
        almanac("\nday a wet\nworth 24 guard 9 ;thief b skill 0 sack 12;\n", 0);
        almanac("day a wet worth 1guard 0;thief b skill 9sack 1;", 0);
        almanac("day a wet worth01guard0009;thief b skill0sack0012;", 0);
        almanac("day abcdefgh plain worth 1 guard 0;", 0);
        almanac("day much plain worth 1 guard 0;thief old skill 0 sack 1;thief sort skill 0 sack 1;pays date;", 0);
        almanac("pays 9999;thief a skill 1 sack 1;day b feast worth 2 guard 2;", 0);
        StolenHolidays x = Check.told("day p plain worth 5 guard 1;day s sunday worth 6 guard 2;"
                + "thief t skill 3 sack 4;day w wet worth 7 guard 3;day f feast worth 8 guard 4;thief u skill 5 sack 6;");
        for (int d = 0; d < 4; d++) {
            Check.due("kind", x.day(d, 0), d);
            Check.due("worth", x.day(d, 1), 5 + d);
            Check.due("left", x.day(d, 2), 5 + d);
            Check.due("guard", x.day(d, 3), 1 + d);
            Check.due("guard as told", x.day(d, 4), 1 + d);
        }
        Check.due("skill", x.thief(1, 0), 5);
        Check.due("sack", x.thief(1, 1), 6);
    }

    private static void almanacFaults() {
        fault("day", 1, 3);
        fault("day ", 1, 4);
        fault("day a", 1, 5);
        fault("day a wet", 1, 9);
        fault("day a wet worth 1 guard 0", 1, 25);
        fault("day a wet guard 1 worth 1;", 1, 10);
        fault("day a wet worth worth 1;", 1, 16);
        fault("day a wet worth 1 guard 0;;", 1, 26);
        fault("day 1 wet worth 1 guard 0;", 1, 4);
        fault("day a b worth 1 guard 0;", 1, 6);
        fault("day a wet worth 0 guard 0;", 4, 16);
        fault("day a wet worth 25 guard 0;", 4, 16);
        fault("day a wet worth 24 guard 10;", 4, 25);
        fault("thief a skill 10 sack 1;", 4, 14);
        fault("thief a skill 9 sack 0;", 4, 21);
        fault("thief a skill 9 sack 13;", 4, 21);
        fault("thief a wet skill 9 sack 1;", 1, 8);
        fault("thief a sack 1 skill 1;", 1, 8);
        fault("night;", 1, 0);
        fault("steal a b;", 1, 0);
        fault("; ", 1, 0);
        fault("much;", 1, 0);
        // The first wrong one alone counts.
        fault("day a wet worth 99 guard 99 $;", 4, 16);
        fault("day a wet worth 99;day a", 4, 16);
    }

    private static void tokenFaults() {
        fault("day abcdefghi plain worth 1 guard 0;", 1, 4);
        fault("day a wet worth 00001 guard 0;", 1, 16);
        fault("day a wet worth 12345guard 0;", 1, 16);
        fault("Day a wet worth 1 guard 0;", 1, 0);
        fault("day A wet worth 1 guard 0;", 1, 4);
        fault("day aB wet worth 1 guard 0;", 1, 5);
        fault("day a1 wet worth 1 guard 0;", 1, 5);
        fault("day a wet, worth 1 guard 0;", 1, 9);
        fault("day a wet worth -1 guard 0;", 1, 16);
        fault("dayawet worth 1 guard 0;", 1, 0);
        fault("~", 1, 0);
        fault("   !", 1, 3);
        fault("pays 12345;", 1, 5);
        fault("pays 1/2;", 1, 6);
        fault("pays 1>2;", 1, 6);
    }

    private static void nameFaults() {
        String[] words = {"day", "worth", "guard", "thief", "skill", "sack", "pays", "night", "steal", "sell", "spend",
            "swap", "plain", "sunday", "wet", "feast", "not", "and", "or"};
        for (String word : words) {
            fault("day " + word + " wet worth 1 guard 0;", 1, 4);
            fault("thief " + word + " skill 1 sack 1;", 1, 6);
        }
        almanac("day daya wet worth 1 guard 0;day da wet worth 1 guard 0;thief da sack", 3 + 16 * 62);
        fault(DAY + "day a plain worth 1 guard 0;", 3, 30);
        fault(DAY + "thief a skill 1 sack 1;", 3, 32);
        fault("thief a skill 1 sack 1;thief a skill 1 sack 1;", 3, 29);
        fault("thief a skill 1 sack 1;day a wet worth 1 guard 1;", 3, 27);
    }

    private static String days(int count) {
        StringBuilder text = new StringBuilder();
        for (int d = 0; d < count; d++) {
            text.append("day ").append((char) ('a' + d)).append(" wet worth 1 guard 0;");
        }
        return text.toString();
    }

    private static String thieves(int count) {
        StringBuilder text = new StringBuilder();
        for (int t = 0; t < count; t++) {
            text.append("thief ").append((char) ('s' + t)).append(" skill 1 sack 1;");
        }
        return text.toString();
    }

    private static void tooMany() {
        almanac(days(8) + thieves(4), 0);
        fault(days(9), 5, 8 * DAY.length());
        fault(thieves(5), 5, thieves(4).length());
        fault(days(8) + " daya", 1, days(8).length() + 1);
        fault("pays 1;pays 1;", 3, 7);
        fault("pays 1; pays", 3, 8);
    }

    /** The PRICE of 5 of the sunday of a new almanac, none old, by such a law. */
    private static void law(String law, int want) {
        StolenHolidays x = Check.told("day s sunday worth 9 guard 0;thief t skill 0 sack 5;pays " + law + ";");
        x.steal(0, 0);
        Check.due("pays " + law, x.price(0), want);
    }

    private static void laws() {
        law("much", 5);
        law("old", 0);
        law("sort", 1);
        law("date", 0);
        law("100", 99);
        law("0-1", 0);
        law("2+3*4", 14);
        law("20-3-4", 13);
        law("(2+3)*4", 20);
        law("2*3*4", 24);
        law("1<2", 1);
        law("2<2", 0);
        law("2=2", 1);
        law("1+1=2*1", 1);
        law("not 0+5", 6);
        law("not 7", 0);
        law("not not 7", 1);
        law("7 and 8", 1);
        law("0 or 0", 0);
        law("7 or 0", 1);
        law("1 or 1 and 0", 0);
        law("0 and 0 or 1", 1);
        law("1 and 1 = 2 or 0 < 1", 1);
        law("(1 and 1)+(0 or 2)+3", 5);
        law("0-3<2", 1);
        // 65535 * 65537 wraps to -1, 65536 * 65536 to 0.
        law("(6553*10+5)*(6553*10+7)+7", 6);
        law("4096*16*4096*16+8", 8);
        fault("pays ;", 1, 5);
        fault("pays 1<2<3;", 1, 8);
        fault("pays 1=2=3;", 1, 8);
        fault("pays 1 2;", 1, 7);
        fault("pays -1;", 1, 5);
        fault("pays 1+;", 1, 7);
        fault("pays 1*+2;", 1, 7);
        fault("pays not;", 1, 8);
        fault("pays not and 1;", 1, 9);
        fault("pays 1 not 2;", 1, 7);
        fault("pays ();", 1, 6);
        fault("pays (1;", 1, 7);
        fault("pays 1);", 1, 6);
        fault("pays mucho;", 1, 5);
        fault("pays 1", 1, 6);
        fault("pays 1 and", 1, 10);
        StolenHolidays x = Check.told("day s sunday worth 9 guard 0;thief t skill 0 sack 5;");
        x.steal(0, 0);
        Check.due("without pays", x.price(0), 5);
    }

    private static void lawDepth() {
        law("((((7))))", 7);
        law("not not not not 7", 1);
        law("not (not (7))", 1);
        law("((((1)+1)+1)+1)+((((1))))", 5);
        fault("pays (((((7)))));", 5, 10);
        fault("pays (((((much)))));", 5, 10);
        fault("pays (((((not 7)))));", 5, 10);
        fault("pays (((((()))))));", 5, 10);
        fault("pays not not not not not 1;", 5, 25);
        fault("pays not(not(not 1));", 5, 17);
        fault("pays (((((;", 1, 10);
        fault("pays (((((night", 1, 10);
        fault("pays (((((", 1, 10);
        fault("pays (((((12345", 1, 10);
        // All that may wait, waits.
        law("0 or 1=1+1*(0 or 1=1+1*(0 or 1=1+1*(0 or 1=1+1*(0 or 1=1+1*0))))", 1);
        law("1 and 0<1+2*(1 and 0<1+2*(1 and 0<1+2*(1 and 0<1+2*(1 and 0<1+2*3))))", 1);
    }

    private static final String BOOK =
            "day mon plain worth 6 guard 2;day sun sunday worth 8 guard 5;thief al skill 5 sack 4;thief bo skill 2 sack 7;";

    private static void goodYears() {
        StolenHolidays x = Check.told(BOOK);
        Check.due("empty", Check.readYear(x, ""), 0);
        Check.due("no lines", x.count(8), 0);
        Check.due("each", Check.readYear(x, "night;steal al mon;sell al;spend bo;swap bo al;\nnight ;"), 0);
        Check.due("lines", x.count(8), 6);
        Check.due("another", Check.readYear(x, "night;"), 0);
        Check.due("it is the one", x.count(8), 1);
        Check.due("40", Check.readYear(x, "night;".repeat(40)), 0);
        Check.due("40 lines", x.count(8), 40);
    }

    private static void yearFault(String text, int kind, int place) {
        Check.due("year of '" + text + "'", Check.readYear(Check.told(BOOK), text), kind + 16 * place);
    }

    private static void yearFaults() {
        yearFault("rest;", 1, 0);
        yearFault("al;", 1, 0);
        yearFault("day;", 1, 0);
        yearFault("night", 1, 5);
        yearFault("night night;", 1, 6);
        yearFault("steal;", 1, 5);
        yearFault("steal mon al;", 2, 6);
        yearFault("steal al bo;", 2, 9);
        yearFault("steal al sue;", 2, 9);
        yearFault("steal al night;", 1, 9);
        yearFault("steal cy sue;", 2, 6);
        yearFault("steal wet mon;", 1, 6);
        yearFault("steal al mon", 1, 12);
        yearFault("steal al mon al;", 1, 13);
        yearFault("steal al;", 1, 8);
        yearFault("sell mon;", 2, 5);
        yearFault("sell al mon;", 1, 8);
        yearFault("sell 1;", 1, 5);
        yearFault("spend cy;", 2, 6);
        yearFault("spend;", 1, 5);
        yearFault("swap al;", 1, 7);
        yearFault("swap al al;", 3, 8);
        yearFault("swap al cy;", 2, 8);
        yearFault("swap al mon;", 2, 8);
        yearFault("swap cy cy;", 2, 5);
        yearFault("swap al swap;", 1, 8);
        yearFault("swap al abcdefghi;", 1, 8);
        yearFault("night;".repeat(41), 5, 240);
        yearFault("night;".repeat(40) + "sell cy;", 5, 240);
        yearFault("night;".repeat(40) + "rest;", 1, 240);
        yearFault("night;".repeat(40) + ";", 1, 240);
        yearFault("night;".repeat(39) + "night", 1, 239);
        yearFault("pays 1;", 1, 0);
    }

    private static void faultsLeaveAll() {
        StolenHolidays x = Check.told(BOOK);
        Check.readYear(x, "night;night;");
        x.steal(0, 1);
        x.see(0, 0, true);
        x.mark(1, false);
        Check.due("bad almanac", Check.readAlmanac(x, "day a wet worth 1 guard 1;thief al skill 1 sack 1;pays;"),
                1 + 16 * 54);
        Check.due("bad year", Check.readYear(x, "night;sell al;rest;"), 1 + 16 * 14);
        Check.due("tape taken", x.count(11), 0);
        Check.due("days", x.count(0), 2);
        Check.due("thieves", x.count(1), 2);
        Check.due("kind", x.day(0, 0), 0);
        Check.due("left", x.day(1, 2), 4);
        Check.due("lines", x.count(8), 2);
        Check.due("seen", x.count(9), 1);
        Check.due("to undo", x.count(10), 1);
        Check.due("price by no pays", x.price(0), 4);
        Check.due("names stay", Check.readYear(x, "steal bo sun;"), 0);
        Check.due("mark stays", x.mark(1, true), true);
    }

    private static void almanacBeginsAnew() {
        StolenHolidays x = Check.told(BOOK + "pays 7;");
        Check.readYear(x, "night;night;");
        x.steal(0, 1);
        x.sell(0);
        x.steal(1, 1);
        x.steal(0, 0);
        x.spend(0);
        x.night();
        x.see(0, 0, true);
        x.mark(0, false);
        x.mark(3, false);
        Check.due("again", Check.readAlmanac(x, BOOK), 0);
        Check.due("night", x.count(2), 0);
        Check.due("left", x.count(3), 14);
        for (int what = 4; what <= 11; what++) {
            Check.due("anew: count " + what, x.count(what), 0);
        }
        Check.due("guard", x.day(1, 3), 5);
        Check.due("undo", x.undo(), false);
        Check.due("mark 0", x.mark(0, true), false);
        Check.due("mark 3", x.mark(3, true), false);
        x.steal(0, 0);
        Check.due("law is anew", x.price(0), 4);
        Check.due("empty almanac", Check.readAlmanac(x, ""), 0);
        Check.due("no thieves", x.count(1), 0);
        Check.due("no piece", x.all(), 0);
        Check.due("nothing to undo", x.undo(), false);
    }
}
