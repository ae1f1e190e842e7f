/** Promises 4 and 13 at their edges: a YEAR told, a YEAR JUDGED. */
final class YearEdges {
    private static final String BOOK = Twins.BOOK;
    private static final String[][] LINES = {
        {"night", ";"},
        {"steal", "al", "mon", ";"},
        {"sell", "bo", ";"},
        {"spend", "cy", ";"},
        {"swap", "al", "bo", ";"}};
    private static final String[] NAMES = {"al", "bo", "cy", "mon", "sun", "whit"};

    private YearEdges() {
    }

    static void run() {
        fortyLines();
        linesOfEachKind();
        endsTooEarly();
        cantStand();
        noThief();
        noDay();
        notTheSame();
        fortyFirst();
        firstFromTheLeft();
        isTheYear();
        leavesTheRest();
        staysByFault();
        judgedOthers();
        judgedNone();
        judgedFirstAndLast();
        judgedLeftOut();
        nightAlwaysCan();
        judgedCaught();
        judgedJoy();
        judgedFromTheBeginning();
        judgedLeavesAll();
    }

    private static void fault(String text, int kind, int place) {
        Check.due("year of '" + text + "'", Check.readYear(Check.told(BOOK), text), kind + 16 * place);
    }

    private static void good(String text, int lines) {
        StolenHolidays x = Check.told(BOOK);
        Check.due("year of '" + text + "'", Check.readYear(x, text), 0);
        Check.due("lines of '" + text + "'", x.count(8), lines);
    }

    private static void fortyLines() {
        Check.sentence(4, "two THIEVES, not the same), 40 lines at most.");
        good("", 0);
        good("\n ", 0);
        good("night;", 1);
        good("night;".repeat(39), 39);
        good("night;".repeat(40), 40);
        fault("night;".repeat(41), 5, 240);
        good("steal al mon;".repeat(40), 40);
        fault("steal al mon;".repeat(41), 5, 520);
        good("sell al;spend bo;swap cy al;night;".repeat(10), 40);
    }

    private static void linesOfEachKind() {
        Check.sentence(4, "YEAR: any number of   night ;   steal NAME NAME ;   sell NAME ;   spend NAME ;   swap NAME NAME ;");
        for (String[] line : LINES) {
            String text = String.join(" ", line);
            good(text, 1);
            good(text + " " + text + "\n", 2);
            good(text.replace(" ;", ";"), 1);
            good(text.replace(" ", "\n"), 1);
        }
        fault("nights;", 1, 0);
        fault("nigh;", 1, 0);
        fault("rest;", 1, 0);
        fault("day a wet worth 1 guard 0;", 1, 0);
        fault("pays 1;", 1, 0);
        fault(";", 1, 0);
        fault("night;;", 1, 6);
    }

    private static void endsTooEarly() {
        Check.sentence(4, "the end being one at the text's length");
        for (String[] line : LINES) {
            StringBuilder text = new StringBuilder();
            for (int i = 0; i + 1 < line.length; i++) {
                text.append(line[i]);
                fault(text.toString(), 1, text.length());
                text.append(' ');
                fault(text.toString(), 1, text.length());
            }
        }
    }

    private static boolean isIn(String word, String... words) {
        for (String one : words) {
            if (one.equals(word)) {
                return true;
            }
        }
        return false;
    }

    /** The kind of FAULT that the token is where the line has that other one; 0: none. */
    private static int faultOf(String token, String other, boolean isDay, String first) {
        if (other.equals(";")) {
            return token.equals(";") ? 0 : 1;
        }
        if (isIn(other, "night", "steal", "sell", "spend", "swap")) {
            return isIn(token, "night", "steal", "sell", "spend", "swap") ? 0 : 1;
        }
        if (isIn(token, AlmanacEdges.RESERVED) || token.charAt(0) < 'a' || token.charAt(0) > 'z' || token.length() > 8) {
            return 1;
        }
        if (isDay) {
            return isIn(token, "mon", "sun", "whit") ? 0 : 2;
        }
        return !isIn(token, "al", "bo", "cy") ? 2 : token.equals(first) ? 3 : 0;
    }

    private static void cantStand() {
        Check.sentence(4, "1 it is none, or can't stand there");
        for (String[] line : LINES) {
            StringBuilder ahead = new StringBuilder();
            for (int i = 0; i < line.length; i++) {
                String first = i == 2 && line[0].equals("swap") ? line[1] : "";
                boolean isDay = i == 2 && line[0].equals("steal");
                for (String token : AlmanacEdges.TOKENS) {
                    one(ahead.toString(), token, faultOf(token, line[i], isDay, first));
                }
                for (String token : NAMES) {
                    one(ahead.toString(), token, faultOf(token, line[i], isDay, first));
                }
                ahead.append(line[i]).append(' ');
            }
        }
    }

    private static void one(String ahead, String token, int kind) {
        if (kind != 0) {
            fault(ahead + token, kind, ahead.length());
        } else if (token.equals(";")) {
            good(ahead + token, 1);
        } else {
            fault(ahead + token, 1, ahead.length() + token.length());
        }
    }

    private static void noThief() {
        Check.sentence(4, "2 a NAME of no THIEF (behind steal, sell, spend, swap, its second)");
        String[] none = {"mon", "sun", "whit", "x", "a", "all", "l", "much", "abcdefgh"};
        for (String name : none) {
            fault("steal " + name + " mon;", 2, 6);
            fault("sell " + name + ";", 2, 5);
            fault("spend " + name + ";", 2, 6);
            fault("swap " + name + " al;", 2, 5);
            fault("swap al " + name + ";", 2, 8);
            fault("swap " + name + " " + name + ";", 2, 5);
        }
        StolenHolidays x = new StolenHolidays();
        Check.due("none is told at first", Check.readYear(x, "spend al;"), 2 + 16 * 6);
        fault("sell abcdefghi;", 1, 5);
        fault("sell night;", 1, 5);
    }

    private static void noDay() {
        Check.sentence(4, "of no DAY (the second of steal) told");
        String[] none = {"al", "bo", "cy", "x", "mo", "monn", "old", "abcdefgh"};
        for (String name : none) {
            fault("steal al " + name + ";", 2, 9);
        }
        good("steal al mon;steal al sun;steal al whit;", 3);
        fault("steal al wet;", 1, 9);
        fault("steal al 1;", 1, 9);
        StolenHolidays x = Check.told("thief al skill 1 sack 1;");
        Check.due("none is told", Check.readYear(x, "steal al mon;"), 2 + 16 * 9);
    }

    private static void notTheSame() {
        Check.sentence(4, "the second one of swap that is the first one");
        fault("swap al al;", 3, 8);
        fault("swap cy cy;", 3, 8);
        fault("swap al al", 3, 8);
        good("swap al bo;", 1);
        good("swap bo al;", 1);
        good("swap cy al;", 1);
        good("sell al;sell al;", 2);
    }

    private static void fortyFirst() {
        Check.sentence(4, "the first word of a 41st line of a YEAR");
        String forty = "night;".repeat(40);
        fault(forty + "night", 5, 240);
        fault(forty + " \n night;", 5, 243);
        fault(forty + "steal zz zz;", 5, 240);
        fault(forty + "sell", 5, 240);
        fault(forty + "spend al;", 5, 240);
        fault(forty + "swap al al;", 5, 240);
        fault("night;".repeat(39) + "swap al al;", 3, 242);
        // What is no first word of a line is worse.
        fault(forty + "rest;", 1, 240);
        fault(forty + ";", 1, 240);
        fault(forty + "$", 1, 240);
        fault(forty + "day", 1, 240);
        good(forty + " ", 40);
    }

    private static void firstFromTheLeft() {
        Check.sentence(4, "of the first token from the left that is wrong the least");
        fault("sell zz;$", 2, 5);
        fault("swap al al $", 3, 8);
        fault("sell al $;sell zz;", 1, 8);
        fault("night;sell zz;rest;", 2, 11);
        fault("steal zz yy;", 2, 6);
        fault("steal day zz;", 1, 6);
    }

    private static void isTheYear() {
        Check.sentence(4, "A YEAR is the YEAR.");
        StolenHolidays x = Check.told(BOOK);
        Check.readYear(x, "steal al mon;spend al;night;");
        Check.due("joy", x.judged(2), 4);
        Check.due("another", Check.readYear(x, "steal bo mon;spend bo;"), 0);
        Check.due("its lines", x.count(8), 2);
        Check.due("its joy", x.judged(2), 6);
        Check.due("an empty one", Check.readYear(x, ""), 0);
        Check.due("no lines", x.count(8), 0);
        Check.due("no joy", x.judged(2), 0);
    }

    private static void leavesTheRest() {
        Check.sentence(4, "The TAPE is read as a YEAR, likewise.");
        Twins.leavesAll("the same year again", x -> Check.due("year", Check.readYear(x, Twins.YEAR), 0));
        Check.due("a year of nothing on the tape", new StolenHolidays().year(), 0);
    }

    private static void staysByFault() {
        Check.sentence(4, "`int year()`: The TAPE is read as a YEAR, likewise.");
        String[] wrong = {"$", "night", "night;night;night;sell zz;", "swap al al;", "night;".repeat(41), "day",
            "steal al mon;spend al;steal cy sun;spend cy;;", "steal al al;"};
        for (String text : wrong) {
            Twins.leavesAll("year of " + text, x -> Check.due("is wrong", Check.readYear(x, text) != 0, true));
        }
    }

    private static StolenHolidays judged(String year, int cannot, int caught, int joy) {
        StolenHolidays x = Check.told(BOOK);
        Check.due("year of " + year, Check.readYear(x, year), 0);
        Check.due("can't be: " + year, x.judged(0), cannot);
        Check.due("caught: " + year, x.judged(1), caught);
        Check.due("joy: " + year, x.judged(2), joy);
        return x;
    }

    private static void judgedOthers() {
        Check.sentence(13, "JUDGED, what 0, 1: lines (NONE: none), 2: how much; -2: others.");
        StolenHolidays x = judged("sell al;steal bo sun;steal al mon;spend al;", 0, 1, 4);
        Check.due("what -1", x.judged(-1), -2);
        Check.due("what 3", x.judged(3), -2);
        for (int what : Check.WILD) {
            Check.due("what " + what, x.judged(what), -2);
        }
    }

    private static void judgedNone() {
        Check.sentence(13, "lines (NONE: none)");
        StolenHolidays x = new StolenHolidays();
        Check.due("no year: 0", x.judged(0), -1);
        Check.due("no year: 1", x.judged(1), -1);
        Check.due("no year: 2", x.judged(2), 0);
        judged("", -1, -1, 0);
        judged("night;", -1, -1, 0);
        judged("steal al mon;sell al;steal bo whit;steal al mon;swap al bo;", -1, -1, 0);
    }

    private static void judgedFirstAndLast() {
        Check.sentence(13, "the first line (from 0) that can't be");
        judged("sell al;", 0, -1, 0);
        judged("night;sell al;", 1, -1, 0);
        judged("night;".repeat(39) + "spend al;", 39, -1, 0);
        judged("night;".repeat(38) + "swap al bo;spend al;", 38, -1, 0);
        judged("steal al mon;steal al sun;", 1, -1, 0);
        judged("steal cy mon;steal al mon;", 1, -1, 0);
        judged("steal bo sun;steal bo mon;", 1, 0, 0);
        judged("steal al mon;swap al bo;", 1, -1, 0);
        judged("steal al mon;sell al;sell al;", 2, -1, 0);
    }

    private static void judgedLeftOut() {
        Check.sentence(13, "(a line that can't be is left out; a night always can)");
        judged("spend al;steal al mon;spend al;", 0, -1, 4);
        judged("steal al mon;steal al sun;steal cy sun;spend cy;spend al;", 1, -1, 12);
        judged("steal cy mon;steal bo mon;night;steal bo mon;", 1, 3, 0);
        // One that can't be leaves the guard as it is: 4, two nights later 2.
        judged("steal cy mon;steal bo mon;steal bo mon;night;night;steal bo mon;spend bo;", 1, -1, 2);
    }

    private static void nightAlwaysCan() {
        Check.sentence(13, "a night always can");
        judged("night;".repeat(40), -1, -1, 0);
        StolenHolidays x = new StolenHolidays();
        Check.readYear(x, "night;night;");
        Check.due("without thieves, days", x.judged(0), -1);
    }

    private static void judgedCaught() {
        Check.sentence(13, "the first one by which a THIEF is CAUGHT");
        judged("steal bo sun;", -1, 0, 0);
        judged("steal al sun;", -1, -1, 0);
        judged("steal al sun;steal cy sun;steal bo sun;", 2, -1, 0);
        judged("steal al whit;steal bo whit;", -1, 1, 0);
        judged("steal bo whit;spend bo;steal bo whit;steal al sun;spend al;steal al sun;", -1, 2, 11);
        judged("night;".repeat(39) + "steal bo sun;", -1, 39, 0);
        // Nothing is got by these, though nobody is CAUGHT: a PRICE of 0, no more JOY.
        StolenHolidays x = Check.told("day s sunday worth 9 guard 0;thief t skill 9 sack 1;pays 0;");
        Check.readYear(x, "steal t s;sell t;steal t s;night;night;spend t;");
        Check.due("nobody", x.judged(1), -1);
        Check.due("all could be", x.judged(0), -1);
        Check.due("no joy", x.judged(2), 0);
    }

    private static void judgedJoy() {
        Check.sentence(13, "how much JOY all THIEVES have at last, together");
        judged("steal al mon;steal bo whit;steal cy sun;spend al;spend bo;spend cy;", -1, -1, 4 + 7 + 8);
        judged("steal al sun;night;night;night;spend al;", -1, -1, 1);
        judged("steal al sun;night;night;night;night;night;spend al;", -1, -1, 0);
        judged("steal al mon;steal bo whit;swap al bo;spend al;", -1, -1, 7);
        judged("steal al mon;sell al;", -1, -1, 0);
    }

    private static void judgedFromTheBeginning() {
        Check.sentence(13, "JUDGED: the YEAR from the beginning");
        StolenHolidays x = Twins.lived();
        Check.due("can't be", x.judged(0), 3);
        Check.due("caught", x.judged(1), 4);
        Check.due("joy", x.judged(2), 3);
        StolenHolidays y = Check.told(BOOK);
        Check.readYear(y, Twins.YEAR);
        for (int what = 0; what < 3; what++) {
            Check.due("as it was at first: " + what, x.judged(what), y.judged(what));
        }
        Check.due("joy that is there does not count", x.thief(2, 8) > 0, true);
    }

    private static void judgedLeavesAll() {
        Check.sentence(13, "JUDGED: the YEAR from the beginning");
        Twins.leavesAll("judged", x -> {
            x.judged(0);
            x.judged(1);
            x.judged(2);
            x.judged(3);
        });
    }
}
