/** Promise 3 at the edges of the E of pays. */
final class LawEdges {
    private static final String[] PARTS = {"1", "0001", "much", "old", "sort", "date", "not", "("};

    private LawEdges() {
    }

    static void run() {
        fromTheLeft();
        tests();
        sums();
        products();
        parts();
        whereWhatStands();
        withinFour();
        withinFive();
        withinOthers();
        leavingParts();
        allThatWaits();
        facts();
        oneOrZero();
        whatIsSo();
        wraps();
        withoutPays();
        oneLawAfterAnother();
    }

    /** The PRICE of 5 of a sunday, stolen on night 0, behind so many nights. */
    private static void paid(String law, int nights, int want) {
        StolenHolidays x = Check.told("day s sunday worth 9 guard 0;thief t skill 0 sack 5;pays " + law + ";");
        x.steal(0, 0);
        Check.nights(x, nights);
        Check.due("pays " + law + " behind " + nights, x.price(0), want);
    }

    private static void paid(String law, int want) {
        paid(law, 0, want);
    }

    private static void fault(String law, int kind, int place) {
        AlmanacEdges.fault("pays " + law, kind, 5 + place);
    }

    private static void fromTheLeft() {
        Check.sentence(3, "E: TEST { and TEST or or TEST }, from the left");
        paid("1 or 1 and 0", 0);
        paid("0 and 0 or 1", 1);
        paid("0 and 1 or 1", 1);
        paid("1 or (1 and 0)", 1);
        paid("0 and (0 or 1)", 0);
        paid("1 or 0 and 0 or 0", 0);
        paid("0 or 1 and 1", 1);
        paid("7", 7);
        paid("7 and 7", 1);
        paid("1 and 1 and 1 and 0", 0);
        paid("0 or 0 or 0 or 1", 1);
    }

    private static void tests() {
        Check.sentence(3, "TEST: SUM, or SUM < SUM, or SUM = SUM");
        paid("1<2", 1);
        paid("2<2", 0);
        paid("3<2", 0);
        paid("1=2", 0);
        paid("2=2", 1);
        paid("3=2", 0);
        paid("0-1<0", 1);
        paid("0-2<0-1", 1);
        paid("0-1<0-2", 0);
        paid("1+1<1+2", 1);
        paid("1+2=3*1", 1);
        paid("1<2 and 2<3", 1);
        paid("2<1 or 2=2", 1);
        fault("1<2<3;", 1, 3);
        fault("1<2=3;", 1, 3);
        fault("1=2<3;", 1, 3);
        fault("1=2=3;", 1, 3);
        paid("(1<2)<3", 1);
        paid("1=(2<3)", 1);
    }

    private static void sums() {
        Check.sentence(3, "SUM: PRODUCT { + or - PRODUCT }");
        paid("20-3-4", 13);
        paid("20-3+4", 21);
        paid("20-(3+4)", 13);
        paid("20+3-4", 19);
        paid("2+3*4", 14);
        paid("20-3*4", 8);
        paid("3*4+2", 14);
        fault("+1;", 1, 0);
        fault("-1;", 1, 0);
        fault("1+-1;", 1, 2);
        fault("1+;", 1, 2);
    }

    private static void products() {
        Check.sentence(3, "PRODUCT: PART { * PART }");
        paid("2*3*4", 24);
        paid("2*(3+4)", 14);
        paid("(2+3)*4", 20);
        paid("0*99", 0);
        paid("7*1", 7);
        fault("*1;", 1, 0);
        fault("1**1;", 1, 2);
        fault("1*;", 1, 2);
    }

    private static void parts() {
        Check.sentence(3, "PART: a NUMBER, a fact, not PART, ( E )");
        paid("0", 0);
        paid("7", 7);
        paid("0007", 7);
        paid("much", 5);
        paid("not 0", 1);
        paid("not 0+5", 6);
        paid("not(0+5)", 0);
        paid("not 0*5", 5);
        paid("not 5=0", 1);
        paid("not(5=0)", 1);
        paid("not 5 or 1", 1);
        paid("(7)", 7);
        paid("(7 and 0)+3", 3);
        paid("2*not 0", 2);
        fault("();", 1, 1);
        fault("(1;", 1, 2);
        fault("1);", 1, 1);
        fault("not;", 1, 3);
        fault("1 2;", 1, 2);
        fault("1 much;", 1, 2);
        fault("1(2);", 1, 1);
        fault("(1)2;", 1, 3);
        fault("zz;", 1, 0);
        fault("worth;", 1, 0);
        fault("muc;", 1, 0);
        fault("muchs;", 1, 0);
    }

    private static boolean isIn(String token, String[] tokens) {
        for (String one : tokens) {
            if (one.equals(token)) {
                return true;
            }
        }
        return false;
    }

    private static void stand(String ahead, String... may) {
        for (String token : AlmanacEdges.TOKENS) {
            String text = ahead + " " + token;
            if (!isIn(token, may)) {
                fault(text, 1, ahead.length() + 1);
            } else if (token.equals(";")) {
                AlmanacEdges.good("pays " + text);
            } else {
                fault(text, 1, text.length());
            }
        }
    }

    private static void whereWhatStands() {
        Check.sentence(3, "1 it is none, or can't stand there");
        String[] ahead = {"", "1 +", "1 -", "1 *", "1 <", "1 =", "1 and", "1 or", "not", "(", "(1 <", "1<2 and", "not ("};
        for (String text : ahead) {
            stand(text, PARTS);
        }
        String[] behind = {"1", "much", "not 1", "(1)", "1+2", "1-2", "1*2", "1 and 2", "1<2 or 3", "1 or (2<3)"};
        for (String text : behind) {
            stand(text, "*", "+", "-", "<", "=", "and", "or", ";");
        }
        String[] compared = {"1<2", "1=2", "1<2+3", "1=2*3", "1<not 2", "1 and 1=2", "1=(2)"};
        for (String text : compared) {
            stand(text, "*", "+", "-", "and", "or", ";");
        }
        stand("(1", "*", "+", "-", "<", "=", "and", "or", ")");
        stand("((1)", "*", "+", "-", "<", "=", "and", "or", ")");
        stand("(1<2", "*", "+", "-", "and", "or", ")");
        stand("(1<2 and 3", "*", "+", "-", "<", "=", "and", "or", ")");
    }

    /** So many of not and ( , by the bits of which. */
    private static String openers(int count, int bits) {
        StringBuilder text = new StringBuilder();
        for (int i = 0; i < count; i++) {
            text.append((bits >> i & 1) == 0 ? "(" : "not ");
        }
        return text.toString();
    }

    private static String closers(int count, int bits) {
        return ")".repeat(count - Integer.bitCount(bits));
    }

    private static void withinFour() {
        Check.sentence(3, "no PART lies within 5 of not and ( )");
        for (int bits = 0; bits < 16; bits++) {
            int nots = Integer.bitCount(bits);
            int want = nots == 0 ? 7 : nots % 2 == 0 ? 1 : 0;
            paid(openers(4, bits) + "7" + closers(4, bits), want);
            paid(openers(4, bits) + "much" + closers(4, bits), nots == 0 ? 5 : want);
        }
    }

    private static void withinFive() {
        Check.sentence(3, "no PART lies within 5 of not and ( )");
        for (int bits = 0; bits < 32; bits++) {
            String five = openers(5, bits);
            for (String part : PARTS) {
                fault(five + part, 5, five.length());
                fault(five + part + closers(5, bits) + ";", 5, five.length());
            }
            // What is no PART there is worse still.
            fault(five + ")", 1, five.length());
            fault(five + ";", 1, five.length());
            fault(five + "$", 1, five.length());
            fault(five + "zz", 1, five.length());
            fault(five, 1, five.length());
        }
    }

    private static void withinOthers() {
        Check.sentence(3, "not, or a PART, within 5 others.");
        for (int bits = 0; bits < 64; bits++) {
            fault(openers(6, bits) + "7" + closers(6, bits) + ";", 5, openers(5, bits & 31).length());
        }
        fault("1+(1+(1+(1+(1+(1)))));", 5, 15);
        fault("1+(1+(1+(1+(1", 1, 13);
        AlmanacEdges.good("pays 1+(1+(1+(1+(1+1))));");
        fault("(((1+(2)*(3))))*((not(1)))+1<(((((1)))));", 5, 34);
        fault("(".repeat(60), 5, 5);
        fault("not ".repeat(60), 5, 20);
    }

    private static void leavingParts() {
        Check.sentence(3, "no PART lies within 5 of not and ( )");
        paid("((((7))))+((((8))))", 15);
        paid("not not not not 7+not not not not 8", 2);
        paid("((((1)+1)+1)+1)*((((1))))", 4);
        paid("((not not 7)+((8)))", 9);
        paid("(((not 0)+(not 0)))", 2);
        paid("not(not 0)+(((5)))", 5);
        fault("((((7))))+(((((8)))));", 5, 15);
        fault("not not not not 7+not not not not not 8;", 5, 38);
        fault("(not 1)+(((((8)))));", 5, 13);
    }

    private static void allThatWaits() {
        Check.sentence(3, "no PART lies within 5 of not and ( )");
        // On each level an E, a TEST, a SUM and a PRODUCT wait for what is within.
        paid("0 or 1=1+1*(0 or 1=1+1*(0 or 1=1+1*(0 or 1=1+1*(0 or 1=1+1*0))))", 1);
        paid("1 and 0<1+2*(1 and 0<1+2*(1 and 0<1+2*(1 and 0<1+2*(1 and 0<1+2*3))))", 1);
        paid("0 or 3=1+2*(0 or 3=1+2*(0 or 3=1+2*(0 or 3=1+2*(0 or 7=1+2*3))))", 1);
        paid("0 or 3=1+2*(0 or 3=1+2*(0 or 3=1+2*(0 or 3=1+2*(0 or 8=1+2*3))))", 0);
        paid("1+(2+(3+(4+(5*2))))", 20);
        paid("90-(80-(70-(60-(50))))", 70);
    }

    private static void facts() {
        Check.sentence(3, "Facts: much (how much a PIECE is), old (how many nights it has been laid low), sort (its KIND: 0 plain,"
                + " 1 sunday, 2 wet, 3 feast), date (the night).");
        paid("much", 3, 5);
        paid("old", 0, 0);
        paid("old", 3, 3);
        paid("sort", 3, 1);
        paid("date", 0, 0);
        paid("date", 3, 3);
        String[] kinds = {"plain", "sunday", "wet", "feast"};
        for (int kind = 0; kind < 4; kind++) {
            StolenHolidays x = Check.told("day s " + kinds[kind] + " worth 24 guard 0;thief t skill 9 sack 8;"
                    + "pays sort*20+much+old*5-date;");
            Check.nights(x, 2);
            x.steal(0, 0);
            Check.due("of a " + kinds[kind], x.price(0), kind * 20 + 8 - 2);
            x.night();
            Check.due("of a " + kinds[kind] + " later", x.price(0), kind * 20 + (kind == 2 ? 4 : 8) + 5 - 3);
        }
    }

    private static void oneOrZero() {
        Check.sentence(3, "Of not, and, or, < and = comes 1 or 0");
        // 50 more, so that one less than 0 would show.
        paid("50+10*not 7", 50);
        paid("50+10*not 0", 60);
        paid("50+10*(7 and 8)", 60);
        paid("50+10*(7 and 0)", 50);
        paid("50+10*(0 and 7)", 50);
        paid("50+10*(0 and 0)", 50);
        paid("50+10*(7 or 8)", 60);
        paid("50+10*(7 or 0)", 60);
        paid("50+10*(0 or 7)", 60);
        paid("50+10*(0 or 0)", 50);
        paid("50+10*(7<8)", 60);
        paid("50+10*(8<8)", 50);
        paid("50+10*(9<8)", 50);
        paid("50+10*(8=8)", 60);
        paid("50+10*(8=7)", 50);
        paid("(7 and 8)=1", 1);
        paid("(7 or 8)=1", 1);
        paid("not not 7=1", 1);
    }

    private static void whatIsSo() {
        Check.sentence(3, "what is not 0 is so");
        paid("0 or 1", 1);
        paid("0 or 0", 0);
        paid("0 or 0-1", 1);
        paid("0-1 and 0-2", 1);
        paid("not(0-1)", 0);
        paid("not 1", 0);
        paid("not 2", 0);
        paid("0 or 9999", 1);
        paid("1 and 2", 1);
    }

    private static void wraps() {
        Check.sentence(3, "ints wrap");
        // 32768 * 65536 is 2 to the 31st, the least int.
        paid("4096*8*4096*16", 0);
        paid("4096*8*4096*16-1", 99);
        paid("4096*8*4096*16<0", 1);
        paid("4096*8*4096*16-1<0", 0);
        paid("0-4096*8*4096*16<0", 1);
        paid("4096*16*4096*16", 0);
        paid("4096*16*4096*16+8", 8);
        // 65535 * 65537 is one less than 2 to the 32nd.
        paid("(6553*10+5)*(6553*10+7)+7", 6);
        paid("9999*9999*9999=9999*9999*9999", 1);
        paid("9999*9999*9999+0<0", 9999 * 9999 * 9999 < 0 ? 1 : 0);
    }

    private static void withoutPays() {
        Check.sentence(3, "Without pays: much.");
        StolenHolidays x = Check.told("day s plain worth 24 guard 0;thief t skill 0 sack 12;");
        x.steal(0, 0);
        Check.due("much", x.price(0), 12);
        Check.nights(x, 4);
        Check.due("much then", x.price(0), 11);
        Check.due("sold", x.sell(0), 11);
    }

    private static void oneLawAfterAnother() {
        Check.sentence(3, "Without a FAULT an ALMANAC is the ALMANAC from then on");
        String book = "day s sunday worth 9 guard 0;thief t skill 0 sack 5;";
        StolenHolidays x = new StolenHolidays();
        for (int i = 1; i <= 6; i++) {
            Check.due("a long law", Check.readAlmanac(x, book + "pays " + (300 + i) + "-1".repeat(300) + ";"), 0);
            x.steal(0, 0);
            Check.due("nothing of the ones ahead is left", x.price(0), i);
            if (i % 2 == 0) {
                Check.due("no law", Check.readAlmanac(x, book), 0);
                x.steal(0, 0);
                Check.due("much", x.price(0), 5);
            }
        }
        x = new StolenHolidays();
        for (int i = 0; i < 70; i++) {
            Check.feed(x, "pays " + i + ";");
            Check.due("many laws", x.almanac(), 0);
        }
        Check.due("and one", Check.readAlmanac(x, book + "pays 7+1;"), 0);
        x.steal(0, 0);
        Check.due("the last one", x.price(0), 8);
        for (int i = 0; i < 70; i++) {
            Check.feed(x, "pays " + i + "$");
            Check.due("wrong ones", x.almanac(), 1 + 16 * (i < 10 ? 6 : 7));
        }
        Check.due("it stays", x.price(0), 8);
        x = new StolenHolidays();
        Check.due("a law as long as can be", Check.readAlmanac(x, "pays 0" + "+1".repeat(496) + ";"), 0);
        Check.due("another", Check.readAlmanac(x, "pays 1" + "+1".repeat(496) + ";"), 0);
        for (int i = 0; i < 200; i++) {
            Check.due("none", x.almanac(), 0);
        }
        Check.due("no law", Check.readAlmanac(x, book), 0);
        x.steal(0, 0);
        Check.due("much", x.price(0), 5);
    }
}
