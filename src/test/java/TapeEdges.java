/** Promises 1 and 2 at their edges: a new object, the TAPE. */
final class TapeEdges {
    private static final int MOST = 1000;

    private TapeEdges() {
    }

    static void run() {
        none();
        nothing();
        nothingAtFirst();
        apart();
        upToTwentyFour();
        highestFirst();
        signsLeftOut();
        leftOutWithin();
        beyondLeftOut();
        leftOutTakeNoRoom();
        howMany();
        emptyThen();
        full();
        calls();
    }

    private static void none() {
        Check.sentence(1, "`NONE = -1`: None.");
        Check.due("NONE", StolenHolidays.NONE, -1);
    }

    private static void nothing() {
        Check.sentence(1, "`StolenHolidays()`: Nothing.");
        StolenHolidays x = new StolenHolidays();
        for (int what = 0; what <= 11; what++) {
            Check.due("count " + what, x.count(what), 0);
        }
        Check.due("day", x.day(0, 0), -1);
        Check.due("thief", x.thief(0, 0), -2);
        Check.due("steal", x.steal(0, 0), -1);
        Check.due("sell", x.sell(0), -1);
        Check.due("spend", x.spend(0), -1);
        Check.due("swap", x.swap(0, 1), false);
        Check.due("undo", x.undo(), false);
        Check.due("can", x.can(0), -1);
        Check.due("haul", x.haul(0, 0), -1);
        Check.due("price", x.price(0), -1);
        Check.due("keeps", x.keeps(0, 0), -1);
        Check.due("freed", x.freed(0), -1);
        Check.due("opens", x.opens(0, 0), -1);
        Check.due("waits", x.waits(0, 0), -1);
        Check.due("glads", x.glads(0, 0), -1);
        Check.due("spree", x.spree(0, 1, 0), -2);
        Check.due("see", x.see(0, 0, false), false);
        Check.due("chance", x.chance(0, 0, 1, 5), -1);
        for (int mark = 0; mark < 4; mark++) {
            Check.due("back to " + mark, x.mark(mark, true), false);
        }
        Check.due("nothing was done", x.count(10), 0);
        Check.due("night", x.night(), 0);
        Check.due("one was done", x.count(10), 1);
    }

    private static void nothingAtFirst() {
        Check.sentence(1, "At first: nothing.");
        StolenHolidays x = new StolenHolidays();
        Check.due("judged 0", x.judged(0), -1);
        Check.due("judged 1", x.judged(1), -1);
        Check.due("judged 2", x.judged(2), 0);
        Check.due("no thief is told", Check.readYear(x, "sell a;"), 2 + 16 * 5);
        Check.due("a year of nights", Check.readYear(x, "night;night;"), 0);
        Check.due("its lines", x.count(8), 2);
        Check.due("a mark can be laid", x.mark(0, false), true);
        x.night();
        Check.due("and gone back to", x.mark(0, true), true);
        Check.due("the night", x.count(2), 0);
    }

    private static void apart() {
        Check.sentence(1, "`StolenHolidays()`: Nothing.");
        StolenHolidays x = Twins.lived();
        StolenHolidays y = new StolenHolidays();
        for (int what = 0; what <= 11; what++) {
            Check.due("another one has nothing of it: count " + what, y.count(what), 0);
        }
        Check.due("nor its marks", y.mark(0, true), false);
        Check.readAlmanac(y, "thief z skill 1 sack 1;");
        y.night();
        Twins.alikeInAll("nor does it take from it", x, Twins.lived());
    }

    private static void upToTwentyFour() {
        Check.sentence(2, "Up to 24 signs come behind the TAPE");
        StolenHolidays x = new StolenHolidays();
        long eight = Check.packed("abcdefgh", 0);
        Check.due("none", x.feed(0, 0, 0), 0);
        Check.due("24", x.feed(eight, eight, eight), 24);
        Check.due("23", x.feed(eight, eight, eight >>> 8), 47);
        Check.due("1", x.feed(0, 'a', 0), 48);
        Check.due("none again", x.feed(0, 0, 0), 48);
        x = new StolenHolidays();
        x.feed(Check.packed("day a we", 0), 0, 0);
        x.feed(0, Check.packed("t worth ", 0), 0);
        x.feed(0, 0, Check.packed("7 guard ", 0));
        x.feed('3', ';', 0);
        Check.due("behind", x.almanac(), 0);
        Check.due("kind", x.day(0, 0), 2);
        Check.due("worth", x.day(0, 1), 7);
        Check.due("guard", x.day(0, 3), 3);
    }

    private static void highestFirst() {
        Check.sentence(2, "the bytes of a, b, c, of each the highest first");
        StolenHolidays x = new StolenHolidays();
        x.feed(Check.packed("day abcd", 0), Check.packed("ef wet w", 0), Check.packed("orth 24$", 0));
        Check.due("each at its place", x.almanac(), 1 + 16 * 23);
        // Each of the 24 places: the one sign that can't stand is found there.
        for (int place = 0; place < 24; place++) {
            StringBuilder text = new StringBuilder(" ".repeat(24));
            text.setCharAt(place, '$');
            x = new StolenHolidays();
            x.feed(Check.packed(text.toString(), 0), Check.packed(text.toString(), 8), Check.packed(text.toString(), 16));
            Check.due("a sign at " + place, x.almanac(), 1 + 16 * place);
        }
    }

    private static void signsLeftOut() {
        Check.sentence(2, "others than 10 and 32 .. 126, and what is beyond 1,000, are left out");
        for (int sign = 0; sign < 256; sign++) {
            StolenHolidays x = new StolenHolidays();
            boolean kept = sign == 10 || sign >= 32 && sign <= 126;
            Check.due("the highest byte " + sign, x.feed((long) sign << 56, 0, 0), kept ? 1 : 0);
            Check.due("a byte within " + sign, x.feed(0, (long) sign << 24, 0), kept ? 2 : 0);
            Check.due("the lowest byte " + sign, x.feed(0, 0, sign), kept ? 3 : 0);
        }
        StolenHolidays x = new StolenHolidays();
        Check.due("all bits", x.feed(-1, -1, -1), 0);
        Check.due("the least long", x.feed(Long.MIN_VALUE, Long.MIN_VALUE, Long.MIN_VALUE), 0);
        Check.due("the greatest long", x.feed(Long.MAX_VALUE, Long.MAX_VALUE, Long.MAX_VALUE), 0);
        Check.due("9, 10, 11, 31, 32, 33", x.feed(0x090a0b1f2021L, 0, 0), 3);
        Check.due("125, 126, 127, 128", x.feed(0, 0, 0x7d7e7f80L), 5);
    }

    private static void leftOutWithin() {
        Check.sentence(2, "others than 10 and 32 .. 126, and what is beyond 1,000, are left out");
        StolenHolidays x = new StolenHolidays();
        x.feed(0x64007fff61800979L, Check.packed(" a wet w", 0), Check.packed("orth 1 g", 0));
        Check.feed(x, "uard 0;");
        Check.due("they part no word", x.almanac(), 0);
        x.feed(0x6480617900242424L, 0, 0);
        Check.due("nor have they a place", x.almanac(), 1 + 16 * 3);
    }

    private static StolenHolidays blanks(int count) {
        StolenHolidays x = new StolenHolidays();
        Check.feed(x, " ".repeat(count));
        Check.due("blanks", x.count(11), count);
        return x;
    }

    private static void beyondLeftOut() {
        Check.sentence(2, "what is beyond 1,000, are left out");
        StolenHolidays x = blanks(MOST - 1);
        Check.due("1,000", x.feed(0, 0, ';'), MOST);
        Check.due("one beyond", x.feed(0, 0, 'a'), MOST);
        Check.due("24 beyond", x.feed(0x2020202020202020L, 0x2020202020202020L, 0x2020202020202020L), MOST);
        Check.due("the last one is the 1,000th", x.almanac(), 1 + 16 * (MOST - 1));
        long pays = Check.packed("pays 1+2", 0);
        long more = Check.packed(";day b w", 0);
        x = blanks(MOST - 10);
        Check.due("ten of a call", x.feed(pays, more, more), MOST);
        Check.due("the tenth can't stand", x.almanac(), 1 + 16 * (MOST - 1));
        x = blanks(MOST - 9);
        Check.due("nine of a call", x.feed(pays, more, more), MOST);
        Check.due("the first nine alone came", x.almanac(), 0);
        x = blanks(MOST - 8);
        Check.due("eight of a call", x.feed(pays, more, more), MOST);
        Check.due("its ninth is beyond", x.almanac(), 1 + 16 * MOST);
    }

    private static void leftOutTakeNoRoom() {
        Check.sentence(2, "what is beyond 1,000, are left out");
        StolenHolidays x = blanks(MOST - 1);
        Check.due("left out ones take no room", x.feed(-1, 0x7f7f7f7f0009001fL, 0x7f3bL), MOST);
        Check.due("the one that did come", x.almanac(), 1 + 16 * (MOST - 1));
        Check.due("there is room again", x.feed(0, 0, ' '), 1);
    }

    private static void howMany() {
        Check.sentence(2, "are left out: how many there are.");
        StolenHolidays x = new StolenHolidays();
        for (int n = 1; n <= 41; n++) {
            Check.due("all that are there", x.feed(0x2020202020202020L, 0x0a0a0a0a0a0a0a0aL, 0x2020202020202020L), 24 * n);
            Check.due("as count 11", x.count(11), 24 * n);
        }
        Check.due("984 + 15", x.feed(0x2020202020202020L, 0x20202020202020L, 0), MOST - 1);
        Check.due("1,000", x.feed(0x2020L, 0, 0), MOST);
        Check.due("as count 11", x.count(11), MOST);
    }

    private static void emptyThen() {
        Check.sentence(2, "what reads it takes it: it is empty then");
        String[] texts = {"", " ", "pays 1;", "night;", "$", "pays", "night"};
        for (String text : texts) {
            StolenHolidays x = new StolenHolidays();
            Check.readAlmanac(x, text);
            Check.due("read as an almanac: " + text, x.count(11), 0);
            Check.due("nothing of it is read again", x.almanac(), 0);
            Check.readYear(x, text);
            Check.due("read as a year: " + text, x.count(11), 0);
            Check.due("nothing of it is read again", x.year(), 0);
            Check.feed(x, text);
            x.night();
            x.mark(0, false);
            x.mark(0, true);
            x.judged(0);
            Check.due("nothing else reads it", x.count(11), text.length());
        }
    }

    private static void full() {
        Check.sentence(2, "The TAPE has at most 1,000 signs, 10 and 32 .. 126");
        StolenHolidays x = new StolenHolidays();
        String law = "pays 1" + "+1".repeat(496) + " ;";
        Check.due("a full almanac", law.length(), MOST);
        Check.due("is read", Check.readAlmanac(x, law), 0);
        Check.due("a full one without its last sign", Check.readAlmanac(x, " " + law), 1 + 16 * MOST);
        String lines = "night;".repeat(40);
        Check.due("a full year", Check.readYear(x, lines + "\n".repeat(MOST - lines.length())), 0);
        Check.due("its lines", x.count(8), 40);
        String book = "day s sunday worth 9 guard 0;thief t skill 0 sack 5;pays 1";
        String adds = "+1".repeat((MOST - 1 - book.length()) / 2);
        Check.due("a law as long as can be", Check.readAlmanac(x, book + adds + ";"), 0);
        x.steal(0, 0);
        Check.due("all of it counts", x.price(0), 99);
        String less = "-1".repeat(400);
        Check.due("a long law", Check.readAlmanac(x, "day s sunday worth 9 guard 0;thief t skill 0 sack 5;pays 450" + less + ";"), 0);
        x.steal(0, 0);
        Check.due("to its last sign", x.price(0), 50);
    }

    private static void calls() {
        Check.sentence(1, "An object is used for at most 512 calls after it has been made");
        StolenHolidays x = new StolenHolidays();
        Check.nights(x, 511);
        Check.due("the 512th call", x.count(2), 511);
        x = new StolenHolidays();
        Check.feed(x, "day a sunday worth 24 guard 0;thief t skill 9 sack 12;pays 99;");
        x.almanac();
        int coins = 0;
        // Four calls were made: 508 are left, the last of which is asked.
        for (int call = 4; call + 3 <= 511; call += 3) {
            coins += x.steal(0, 0) > 0 ? 99 : 0;
            x.sell(0);
            x.night();
        }
        Check.due("coins by calls to the end", x.count(6), coins);
        Check.due("there were many", coins, 169 * 99);
    }
}
