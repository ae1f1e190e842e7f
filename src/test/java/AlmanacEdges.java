/** Promise 3 at its edges: TOKENS, the lines of an ALMANAC, FAULTS, what stays and what begins anew. The E of pays: LawEdges. */
final class AlmanacEdges {
    static final String[] RESERVED = {"day", "worth", "guard", "thief", "skill", "sack", "pays", "night", "steal", "sell",
        "spend", "swap", "plain", "sunday", "wet", "feast", "not", "and", "or"};
    /** One of each, to stand where it may or may not. */
    static final String[] TOKENS = {"day", "worth", "guard", "thief", "skill", "sack", "pays", "night", "steal", "sell",
        "spend", "swap", "plain", "sunday", "wet", "feast", "not", "and", "or", "much", "old", "sort", "date", "zz",
        "abcdefgh", "abcdefghi", "1", "0001", "00001", "(", ")", "<", "=", "+", "-", "*", ";", "$", ",", "A", "{", "/", ":"};
    private static final String[] KINDS = {"plain", "sunday", "wet", "feast"};
    private static final String[] DAY = {"day", "a", "wet", "worth", "1", "guard", "0", ";"};
    private static final String[] THIEF = {"thief", "t", "skill", "1", "sack", "1", ";"};

    private AlmanacEdges() {
    }

    static void run() {
        longTokens();
        blanks();
        words();
        numbers();
        signs();
        noTokens();
        anyNumber();
        eightDays();
        kinds();
        numbersTold();
        fourThieves();
        paysOnce();
        reservedWords();
        namesLikeThem();
        alike();
        namesOfAnotherBook();
        places();
        firstAndLeast();
        cantStand();
        toldAlready();
        notAsTold();
        tooMany();
        zeroOrFault();
        staysByFault();
        paysStaysByFault();
        beginsAnew();
        withoutMarks();
    }

    static void fault(String text, int kind, int place) {
        Check.due("almanac of '" + text + "'", Check.readAlmanac(new StolenHolidays(), text), kind + 16 * place);
    }

    static void good(String text) {
        Check.due("almanac of '" + text + "'", Check.readAlmanac(new StolenHolidays(), text), 0);
    }

    static String day(String name, int worth, int guard) {
        return "day " + name + " wet worth " + worth + " guard " + guard + ";";
    }

    static String thief(String name, int skill, int sack) {
        return "thief " + name + " skill " + skill + " sack " + sack + ";";
    }

    static String days(int count) {
        StringBuilder text = new StringBuilder();
        for (int d = 0; d < count; d++) {
            text.append(day("d" + (char) ('a' + d), 1 + d, d));
        }
        return text.toString();
    }

    static String thieves(int count) {
        StringBuilder text = new StringBuilder();
        for (int t = 0; t < count; t++) {
            text.append(thief("t" + (char) ('a' + t), 9 - t, 1 + t));
        }
        return text.toString();
    }

    private static void longTokens() {
        Check.sentence(3, "TOKENS, each as long as can be");
        fault("daya wet worth 1 guard 0;", 1, 0);
        fault("day awet worth 1 guard 0;", 1, 9);
        fault("day a wetworth 1 guard 0;", 1, 6);
        good("day a wet worth1guard0;");
        StolenHolidays x = Check.told("day a wet worth12guard 0;thief b skill 0 sack12;");
        Check.due("12 is one number", x.day(0, 1), 12);
        Check.due("of the sack, too", x.thief(0, 1), 12);
        fault("day a wet worth 1 2 guard 0;", 1, 18);
        fault("day a wet worth 1 guard 0 0;", 1, 26);
    }

    private static void blanks() {
        Check.sentence(3, "blanks (10, 32) between where one likes");
        good("day a wet worth 1 guard 0;");
        good("day\na\nwet\nworth\n1\nguard\n0\n;\n");
        good("  \n day  a \n\n wet   worth 1 guard 0 ;  ");
        good("day a wet worth1guard0;thief b skill1sack1;pays(1);");
        good("pays not(1)and(not 1)or 1;");
        good("pays 1and 1or 1;");
        fault("da y a wet worth 1 guard 0;", 1, 0);
        fault("pays 1 < = 2;", 1, 9);
        good("");
        good(" ");
        good("\n");
    }

    private static void words() {
        Check.sentence(3, "WORDS (letters a .. z, 8 at most)");
        good(day("a", 1, 0));
        good(day("z", 1, 0));
        good(day("azazaza", 1, 0));
        good(day("zazazaza", 1, 0));
        fault(day("zazazazaz", 1, 0), 1, 4);
        fault(day("z".repeat(40), 1, 0), 1, 4);
        fault(thief("abcdefghi", 1, 1), 1, 6);
        fault(day("`a", 1, 0), 1, 4);
        fault(day("a{", 1, 0), 1, 5);
        fault(day("A", 1, 0), 1, 4);
        fault(day("aZ", 1, 0), 1, 5);
        // All eight letters tell one from another.
        good(day("abcdefgh", 1, 0) + day("abcdefgi", 1, 0) + day("bbcdefgh", 1, 0) + day("abcdefg", 1, 0));
    }

    private static void numbers() {
        Check.sentence(3, "NUMBERS (1 to 4 digits; a letter may stand right behind)");
        good("day a wet worth 9 guard 9;");
        good("day a wet worth 09 guard 0;");
        good("day a wet worth 009 guard 00;");
        good("day a wet worth 0009 guard 0000;");
        fault("day a wet worth 00009 guard 0;", 1, 16);
        fault("day a wet worth 9 guard 00000;", 1, 24);
        fault("day a wet worth " + "0".repeat(60) + "9 guard 0;", 1, 16);
        good("pays 9999;");
        fault("pays 10000;", 1, 5);
        good("day a wet worth 1guard 0;");
        good("day a wet worth 0001guard 0;");
        fault("day a wet worth 00001guard 0;", 1, 16);
        fault("day a wet worth 1a guard 0;", 1, 17);
        fault("day a wet worth / guard 0;", 1, 16);
        fault("day a wet worth : guard 0;", 1, 16);
        fault("day a wet worth 1: guard 0;", 1, 17);
        // A NUMBER may stand right behind a letter, too: a WORD has no digits.
        good("day a wet worth1 guard0;");
        fault("day a1 wet worth 1 guard 0;", 1, 5);
    }

    private static void signs() {
        Check.sentence(3, "the signs ( ) < = + - * ;");
        for (char sign = 33; sign <= 126; sign++) {
            boolean letterOrDigit = sign >= 'a' && sign <= 'z' || sign >= '0' && sign <= '9';
            if (!letterOrDigit) {
                boolean joins = "<=+-*".indexOf(sign) >= 0;
                fault("pays 1 " + sign + " ", 1, joins ? 9 : sign == ';' ? -1 : 7, sign == ';');
                fault("pays (1 " + sign + " ", 1, joins || sign == ')' ? 10 : 8, false);
                fault("pays " + sign + " ", 1, sign == '(' ? 7 : 5, false);
            }
        }
    }

    private static void fault(String text, int kind, int place, boolean isGood) {
        if (isGood) {
            good(text);
        } else {
            fault(text, kind, place);
        }
    }

    private static void noTokens() {
        Check.sentence(3, "All else (a longer WORD or NUMBER, too, at its first sign) is none.");
        fault("  abcdefghij", 1, 2);
        fault("day  abcdefghi wet worth 1 guard 0;", 1, 5);
        fault("day a abcdefghi", 1, 6);
        fault("day a wet worth  123456", 1, 17);
        fault("pays 1+ 12345", 1, 8);
        fault("pays 1 abcdefghi", 1, 7);
        fault("pays 1 12345", 1, 7);
        fault("#", 1, 0);
        fault("\"day", 1, 0);
        fault("DAY a wet worth 1 guard 0;", 1, 0);
        fault("dAy a wet worth 1 guard 0;", 1, 0);
    }

    private static void anyNumber() {
        Check.sentence(3, "ALMANAC: any number of   day NAME KIND worth N guard N ;   thief NAME skill N sack N ;   pays E ;");
        good("");
        good(day("a", 1, 0));
        good(thief("a", 0, 1));
        good("pays 1;");
        good("pays 1;" + thief("t", 0, 1) + day("a", 1, 0) + thief("u", 0, 1) + day("b", 1, 0));
        StolenHolidays x = Check.told(days(8) + thieves(4) + "pays 7;");
        Check.due("days", x.count(0), 8);
        Check.due("thieves", x.count(1), 4);
        x = Check.told("");
        Check.due("no days", x.count(0), 0);
        Check.due("no thieves", x.count(1), 0);
    }

    private static void eightDays() {
        Check.sentence(3, "day: 8 at most, numbered as told");
        good(days(7));
        good(days(8));
        fault(days(9), 5, days(8).length());
        StolenHolidays x = Check.told(days(4) + thief("t", 1, 1) + "pays 1;" + days(8).substring(days(4).length()));
        for (int d = 0; d < 8; d++) {
            Check.due("worth of " + d, x.day(d, 1), 1 + d);
            Check.due("guard of " + d, x.day(d, 4), d);
        }
        Check.due("no ninth", x.day(8, 1), -1);
    }

    private static void kinds() {
        Check.sentence(3, "KIND: plain, sunday, wet, feast");
        for (int kind = 0; kind < 4; kind++) {
            Check.due(KINDS[kind], Check.told("day a " + KINDS[kind] + " worth 1 guard 0;").day(0, 0), kind);
        }
        fault("day a plains worth 1 guard 0;", 1, 6);
        fault("day a plai worth 1 guard 0;", 1, 6);
        fault("day a dry worth 1 guard 0;", 1, 6);
        fault("day a worth 1 guard 0;", 1, 6);
    }

    private static void numberTold(String ahead, String behind, int least, int most) {
        good(ahead + least + behind);
        good(ahead + (least + 1) + behind);
        good(ahead + (most - 1) + behind);
        good(ahead + most + behind);
        if (least > 0) {
            fault(ahead + (least - 1) + behind, 4, ahead.length());
        }
        fault(ahead + (most + 1) + behind, 4, ahead.length());
        fault(ahead + 9999 + behind, 4, ahead.length());
        fault(ahead + "-" + least + behind, 1, ahead.length());
    }

    private static void numbersTold() {
        Check.sentence(3, "worth 1 to 24, guard 0 to 9.");
        numberTold("day a wet worth ", " guard 0;", 1, 24);
        numberTold("day a wet worth 1 guard ", ";", 0, 9);
        for (int worth = 1; worth <= 24; worth++) {
            Check.due("worth " + worth, Check.told(day("a", worth, 0)).day(0, 1), worth);
        }
        for (int guard = 0; guard <= 9; guard++) {
            Check.due("guard " + guard, Check.told(day("a", 1, guard)).day(0, 4), guard);
        }
        Check.sentence(3, "skill 0 to 9, sack 1 to 12.");
        numberTold("thief a skill ", " sack 1;", 0, 9);
        numberTold("thief a skill 0 sack ", ";", 1, 12);
        for (int skill = 0; skill <= 9; skill++) {
            Check.due("skill " + skill, Check.told(thief("a", skill, 1)).thief(0, 0), skill);
        }
        for (int sack = 1; sack <= 12; sack++) {
            Check.due("sack " + sack, Check.told(thief("a", 1, sack)).thief(0, 1), sack);
        }
    }

    private static void fourThieves() {
        Check.sentence(3, "thief: 4 at most, numbered as told");
        good(thieves(3));
        good(thieves(4));
        fault(thieves(5), 5, thieves(4).length());
        StolenHolidays x = Check.told(thieves(2) + day("a", 1, 0) + thieves(4).substring(thieves(2).length()));
        for (int t = 0; t < 4; t++) {
            Check.due("skill of " + t, x.thief(t, 0), 9 - t);
            Check.due("sack of " + t, x.thief(t, 1), 1 + t);
        }
        Check.due("no fifth", x.thief(4, 0), -2);
    }

    private static void paysOnce() {
        Check.sentence(3, "pays: once.");
        good(day("a", 1, 0));
        good("pays 1;");
        fault("pays 1;pays 1;", 3, 7);
        fault("pays 1; pays", 3, 8);
        fault("pays 1;" + day("a", 1, 0) + "pays 2;", 3, 7 + day("a", 1, 0).length());
        // Once in each ALMANAC, also behind one that was refused.
        StolenHolidays x = Check.told("pays 1;");
        Check.due("another one's", Check.readAlmanac(x, "pays 2;"), 0);
        Check.due("a wrong one's", Check.readAlmanac(x, "pays 3;$"), 1 + 16 * 7);
        Check.due("and another one's", Check.readAlmanac(x, "pays 4;"), 0);
    }

    private static void reservedWords() {
        Check.sentence(3, "A NAME is another WORD than day, worth, guard, thief, skill, sack, pays, night, steal, sell, spend,"
                + " swap, the KINDS, not, and, or");
        for (String word : RESERVED) {
            fault(day(word, 1, 0), 1, 4);
            fault(thief(word, 1, 1), 1, 6);
        }
    }

    private static void namesLikeThem() {
        Check.sentence(3, "A NAME is another WORD than day, worth, guard, thief, skill, sack, pays, night, steal, sell, spend,"
                + " swap, the KINDS, not, and, or");
        for (String word : RESERVED) {
            good(day(word + "s", 1, 0) + thief("s" + word, 1, 1));
            good(day(word.substring(1) + "xy", 1, 0));
            good(thief("x" + word.substring(0, word.length() - 1), 1, 1));
        }
        good(day("much", 1, 0) + day("old", 1, 0) + thief("sort", 1, 1) + thief("date", 1, 1) + "pays much+old+sort+date;");
        good(day("kinds", 1, 0) + day("none", 1, 0) + thief("year", 1, 1) + thief("o", 1, 1));
    }

    private static void alike() {
        Check.sentence(3, "no two (DAYS, THIEVES) are alike.");
        String day = day("aa", 1, 0);
        String thief = thief("aa", 1, 1);
        fault(day + day, 3, day.length() + 4);
        fault(day + thief, 3, day.length() + 6);
        fault(thief + thief, 3, thief.length() + 6);
        fault(thief + day, 3, thief.length() + 4);
        good(day + thief("a", 1, 1) + thief("aaa", 1, 1) + day("ab", 1, 0) + day("ba", 1, 0));
        fault(days(7) + thieves(4) + day("da", 1, 0), 3, days(7).length() + thieves(4).length() + 4);
        fault(days(8) + thieves(3) + thief("dh", 1, 1), 3, days(8).length() + thieves(3).length() + 6);
        fault(days(7) + day("dg", 1, 0), 3, days(7).length() + 4);
        fault(thieves(3) + thief("tc", 1, 1), 3, thieves(3).length() + 6);
    }

    private static void namesOfAnotherBook() {
        Check.sentence(3, "3 a NAME told already");
        StolenHolidays x = Check.told(day("aa", 1, 0) + thief("bb", 1, 1));
        Check.due("told in the one ahead", Check.readAlmanac(x, thief("aa", 1, 1) + day("bb", 1, 0)), 0);
        Check.due("told in a wrong one", Check.readAlmanac(x, day("cc", 1, 0) + thief("dd", 1, 1) + "$"),
                1 + 16 * (day("cc", 1, 0).length() + thief("dd", 1, 1).length()));
        Check.due("is not told", Check.readAlmanac(x, thief("cc", 1, 1) + day("dd", 1, 0)), 0);
        Check.due("cc is a thief", Check.readYear(x, "steal cc dd;"), 0);
        Check.due("aa is none", Check.readYear(x, "sell aa;"), 2 + 16 * 5);
    }

    private static void places() {
        Check.sentence(3, "FAULTS, kind + 16 * the place (from 0) of a token, the end being one at the text's length");
        fault("$", 1, 0);
        fault(" $", 1, 1);
        fault("day", 1, 3);
        fault("day ", 1, 4);
        fault("day \n\n", 1, 6);
        fault("day a wet worth 25", 4, 16);
        fault("day a wet worth \n25", 4, 17);
        fault(" ".repeat(999) + "$", 1, 999);
        fault(" ".repeat(997) + "day", 1, 1000);
        Check.sentence(3, "the end being one at the text's length");
        cutShort(DAY);
        cutShort(THIEF);
        cutShort(new String[] {"pays", "(", "not", "1", ")", "<", "much", "*", "2", "and", "old", "-", "3", ";"});
    }

    /** Each beginning of a line but the whole one ends too early. */
    private static void cutShort(String[] line) {
        StringBuilder text = new StringBuilder();
        for (int i = 0; i + 1 < line.length; i++) {
            text.append(line[i]);
            fault(text.toString(), 1, text.length());
            text.append(' ');
            fault(text.toString(), 1, text.length());
        }
        good(text + ";");
        good(text + "; ");
    }

    private static void firstAndLeast() {
        Check.sentence(3, "of the first token from the left that is wrong the least");
        fault("day a wet worth 25 guard 10 $", 4, 16);
        fault("day a wet worth 24 guard 10 $", 4, 25);
        fault("day a wet worth 24 guard 9 $", 1, 27);
        fault(day("a", 1, 0) + day("a", 99, 99), 3, day("a", 1, 0).length() + 4);
        fault(days(8) + "day day $", 5, days(8).length());
        fault("pays 1;pays $", 3, 7);
        // Wrong in two ways: the least one.
        fault("day a wet worth 12345 guard 0;", 1, 16);
        fault("pays (((((;", 1, 10);
        fault("pays (((((12345", 1, 10);
        fault("pays not not not not not and", 1, 25);
        fault("pays 1 12345678", 1, 7);
    }

    private static boolean isName(String token) {
        return token.equals("much") || token.equals("old") || token.equals("sort") || token.equals("date")
                || token.equals("zz") || token.equals("abcdefgh");
    }

    private static boolean isNumber(String token) {
        return token.equals("1") || token.equals("0001");
    }

    private static boolean isKind(String token) {
        return token.equals("plain") || token.equals("sunday") || token.equals("wet") || token.equals("feast");
    }

    /** Whether the token can stand where the line has that other one. */
    private static boolean stands(String token, String other) {
        if (other.equals("day") || other.equals("thief")) {
            return token.equals("day") || token.equals("thief") || token.equals("pays");
        }
        if (other.equals("a") || other.equals("t")) {
            return isName(token);
        }
        if (other.equals("wet")) {
            return isKind(token);
        }
        return other.equals("1") || other.equals("0") ? isNumber(token) : token.equals(other);
    }

    private static void cantStand() {
        Check.sentence(3, "1 it is none, or can't stand there");
        for (String[] line : new String[][] {DAY, THIEF}) {
            StringBuilder ahead = new StringBuilder();
            for (String other : line) {
                for (String token : TOKENS) {
                    boolean stands = stands(token, other);
                    int place = stands ? ahead.length() + token.length() : ahead.length();
                    boolean isWhole = stands && other.equals(";");
                    fault(ahead + token, 1, place, isWhole);
                }
                ahead.append(other).append(' ');
            }
        }
        fault(";", 1, 0);
        fault(day("a", 1, 0) + ";", 1, day("a", 1, 0).length());
        fault("night;", 1, 0);
    }

    private static void toldAlready() {
        Check.sentence(3, "3 a NAME told already");
        fault(day("a", 1, 0) + "day a", 3, 30);
        fault(day("a", 1, 0) + "day b", 1, 31);
        fault(thief("a", 1, 1) + "thief a", 3, 29);
        fault(thief("a", 1, 1) + "thief b", 1, 30);
        Check.sentence(3, "pays a second time");
        fault("pays 1;pays", 3, 7);
        fault("pays pays", 1, 5);
        fault("pays 1 pays", 1, 7);
    }

    private static void notAsTold() {
        Check.sentence(3, "4 a NUMBER that is not as told");
        fault("day a wet worth 0", 4, 16);
        fault("day a wet worth 0000", 4, 16);
        fault("day a wet worth 25", 4, 16);
        fault("day a wet worth 1 guard 10", 4, 24);
        fault("thief a skill 10", 4, 14);
        fault("thief a skill 9 sack 0", 4, 21);
        fault("thief a skill 9 sack 13", 4, 21);
        good("pays 0;");
        good("pays 9999;");
    }

    private static void tooMany() {
        Check.sentence(3, "5 one too many: the words day of a ninth, thief of a fifth");
        fault(days(8) + "day", 5, days(8).length());
        fault(days(8) + " \nday x", 5, days(8).length() + 2);
        fault(days(7) + "day", 1, days(7).length() + 3);
        fault(thieves(4) + "thief", 5, thieves(4).length());
        fault(thieves(3) + "thief", 1, thieves(3).length() + 5);
        fault(days(8) + thieves(4) + "thief", 5, days(8).length() + thieves(4).length());
        fault(thieves(4) + days(8) + "day", 5, days(8).length() + thieves(4).length());
        good(days(8) + thieves(4) + "pays 1;");
        // The eighth and the fourth have room behind all others.
        good(thieves(4) + days(8));
    }

    private static void zeroOrFault() {
        Check.sentence(3, "The TAPE is read as an ALMANAC: 0, or its FAULT (all stays then).");
        good(days(8) + thieves(4) + "pays much;");
        fault("night;", 1, 0);
        fault("steal a b;", 1, 0);
        StolenHolidays x = new StolenHolidays();
        Check.due("nothing is an almanac, too", x.almanac(), 0);
        Check.due("a second time", x.almanac(), 0);
    }

    private static void staysByFault() {
        Check.sentence(3, "0, or its FAULT (all stays then)");
        String[] wrong = {"$", "day", "day mon wet worth 1 guard 1;day mon", "thief al skill 9 sack 9;pays 1;pays 2;",
            "day x wet worth 1 guard 1;thief y skill 9 sack 9;pays 7;;", "day x wet worth 25 guard 1;", days(9), thieves(5),
            "pays (((((1)))));"};
        for (String text : wrong) {
            Twins.leavesAll("almanac of " + text, x -> Check.due("is wrong", Check.readAlmanac(x, text) != 0, true));
        }
    }

    private static void paysStaysByFault() {
        Check.sentence(3, "0, or its FAULT (all stays then)");
        StolenHolidays x = Check.told("day a sunday worth 9 guard 0;thief t skill 0 sack 4;pays much+1;");
        x.steal(0, 0);
        Check.due("wrong behind its pays", Check.readAlmanac(x, "pays 50;$"), 1 + 16 * 8);
        Check.due("the law stays", x.price(0), 5);
        Check.due("wrong within its pays", Check.readAlmanac(x, "pays 50+;"), 1 + 16 * 8);
        Check.due("the law stays", x.price(0), 5);
        Check.due("wrong ahead of pays", Check.readAlmanac(x, "$"), 1);
        Check.due("the law stays", x.price(0), 5);
        Check.due("sold by it", x.sell(0), 5);
    }

    private static void beginsAnew() {
        Check.sentence(3, "Without a FAULT an ALMANAC is the ALMANAC from then on: night 0, DAYS with their worth and guard,"
                + " THIEVES FREE, without a PIECE, guilt, coins, JOY, no YEAR, nothing SEEN, nothing can be undone, no MARK is"
                + " there.");
        StolenHolidays x = Twins.lived();
        Check.due("the same one again", Check.readAlmanac(x, Twins.BOOK), 0);
        StolenHolidays y = Check.told(Twins.BOOK);
        Twins.alikeInAll("as if it had been told first", x, y);
        x = Twins.lived();
        Check.due("another one", Check.readAlmanac(x, day("z", 3, 4) + thief("y", 5, 6)), 0);
        int[] want = {1, 1, 0, 3, 0, 0, 0, 0, 0, 0, 0, 0};
        for (int what = 0; what < want.length; what++) {
            Check.due("count " + what, x.count(what), want[what]);
        }
        int[] ofDay = {2, 3, 3, 4, 4, -1};
        for (int what = 0; what < ofDay.length; what++) {
            Check.due("day what " + what, x.day(0, what), ofDay[what]);
        }
        int[] ofThief = {5, 6, 0, -1, -1, 0, 0, 0, 0, -2};
        for (int what = 0; what < ofThief.length; what++) {
            Check.due("thief what " + what, x.thief(0, what), ofThief[what]);
        }
        Check.due("who", x.who(), 1);
        Check.due("judged", x.judged(0), -1);
        Check.due("undo", x.undo(), false);
        Check.due("the names of the one ahead", Check.readYear(x, "sell al;"), 2 + 16 * 5);
        x.steal(0, 0);
        Check.due("without pays it is much again", x.price(0), 3);
    }

    private static void withoutMarks() {
        Check.sentence(3, "nothing can be undone, no MARK is there.");
        StolenHolidays x = Twins.lived();
        Check.readAlmanac(x, "");
        for (int mark = 0; mark < 4; mark++) {
            Check.due("back to " + mark, x.mark(mark, true), false);
        }
        Check.due("undo", x.undo(), false);
        Check.due("days", x.count(0), 0);
        Check.due("thieves", x.count(1), 0);
        Check.due("can be laid again", x.mark(2, false), true);
        Check.due("gone back to", x.mark(2, true), true);
        Check.due("the others are none", x.mark(0, true), false);
    }
}
