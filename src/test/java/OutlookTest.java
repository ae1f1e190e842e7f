/** Promises 14 to 28: who can take what, what is left of it later, what it brings and when the most. */
public final class OutlookTest {
    private static final String BOOK = "day mon plain worth 6 guard 2;day sun sunday worth 8 guard 5;"
            + "day whit wet worth 9 guard 1;day fair feast worth 10 guard 4;"
            + "thief al skill 5 sack 4;thief bo skill 2 sack 7;thief cy skill 9 sack 12;pays much*3-old+date;";
    private static final int[] WRONG = {-1, -2, 8, Integer.MIN_VALUE, Integer.MAX_VALUE};
    private static final int[] WRONG_NIGHTS = {-1, 61, Integer.MIN_VALUE, Integer.MAX_VALUE};

    public static void main(String[] args) {
        nobody();
        wrongNumbers();
        cans();
        hauls();
        prices();
        sums();
        richAndGuilty();
        days();
        pieces();
        freeing();
        opening();
        wholes();
        waiting();
        waitingByDate();
        gladness();
        slackness();
        nothingIsDone();
        Check.end();
    }

    private static void nobody() {
        StolenHolidays x = new StolenHolidays();
        Check.due("can", x.can(0), -1);
        Check.due("haul", x.haul(0, 0), -1);
        Check.due("price", x.price(0), -1);
        Check.due("all", x.all(), 0);
        Check.due("rich", x.rich(), -1);
        Check.due("guilty", x.guilty(), -1);
        Check.due("later", x.later(0, 0), -1);
        Check.due("guards", x.guards(0, 0), -1);
        Check.due("keeps", x.keeps(0, 0), -1);
        Check.due("freed", x.freed(0), -1);
        Check.due("opens", x.opens(0, 0), -1);
        Check.due("whole", x.whole(), 0);
        Check.due("waits", x.waits(0, 0), -1);
        Check.due("glads", x.glads(0, 0), -1);
        Check.due("slack", x.slack(0), -1);
    }

    private static void wrongNumbers() {
        StolenHolidays x = Check.told(BOOK);
        x.steal(0, 0);
        for (int n : WRONG) {
            Check.due("can " + n, x.can(n), -1);
            Check.due("haul " + n, x.haul(n, 0), -1);
            Check.due("haul from " + n, x.haul(1, n), -1);
            Check.due("price " + n, x.price(n), -1);
            Check.due("later " + n, x.later(n, 0), -1);
            Check.due("guards " + n, x.guards(n, 0), -1);
            Check.due("keeps " + n, x.keeps(n, 0), -1);
            Check.due("freed " + n, x.freed(n), -1);
            Check.due("opens " + n, x.opens(n, 0), -1);
            Check.due("opens of " + n, x.opens(0, n), -1);
            Check.due("waits " + n, x.waits(n, 0), -1);
            Check.due("waits what " + n, x.waits(0, n), -1);
            Check.due("glads " + n, x.glads(n, 0), -1);
            Check.due("glads what " + n, x.glads(0, n), -1);
        }
        for (int n : WRONG_NIGHTS) {
            Check.due("later behind " + n, x.later(0, n), -1);
            Check.due("guards behind " + n, x.guards(0, n), -1);
            Check.due("keeps behind " + n, x.keeps(0, n), -1);
            Check.due("slack behind " + n, x.slack(n), -1);
        }
        Check.due("waits what 2", x.waits(0, 2), -1);
        Check.due("glads what 2", x.glads(0, 2), -1);
        Check.due("can 3", x.can(3), -1);
        Check.due("later 4", x.later(4, 0), -1);
    }

    private static void cans() {
        StolenHolidays x = Check.told(BOOK);
        Check.due("al", x.can(0), 15);
        Check.due("bo", x.can(1), 5);
        x.steal(2, 2);
        Check.due("has a piece", x.can(2), 0);
        Check.due("whit is empty", x.can(0), 11);
        Check.due("whit is empty, guarded", x.can(1), 1);
        x.steal(1, 1);
        Check.due("caught", x.can(1), 0);
    }

    private static void hauls() {
        StolenHolidays x = Check.told(BOOK);
        Check.due("the sack", x.haul(0, 0), 4);
        Check.due("all of it", x.haul(1, 0), 6);
        Check.due("caught", x.haul(1, 1), 0);
        Check.due("all of fair", x.haul(2, 3), 10);
        x.steal(2, 2);
        Check.due("has a piece", x.haul(2, 0), -1);
        Check.due("nothing left", x.haul(0, 2), -1);
        x.steal(1, 3);
        Check.due("not free", x.haul(1, 0), -1);
    }

    private static void prices() {
        StolenHolidays x = Check.told(BOOK);
        Check.due("none", x.price(0), -1);
        x.steal(0, 0);
        Check.due("12", x.price(0), 12);
        Check.nights(x, 4);
        Check.due("9 - 4 + 4", x.price(0), 9);
        x.sell(0);
        Check.due("sold", x.price(0), -1);
        x.steal(0, 0);
        Check.due("12 + 4", x.price(0), 16);
        x = Check.told("day a feast worth 9 guard 0;thief t skill 0 sack 3;pays sort*10+much;");
        x.steal(0, 0);
        Check.due("33", x.price(0), 33);
    }

    private static void sums() {
        StolenHolidays x = Check.told(BOOK);
        Check.due("none", x.all(), 0);
        x.steal(0, 0);
        x.steal(1, 2);
        x.steal(2, 3);
        Check.due("all", x.all(), 21);
        x.night();
        Check.due("the wet one is less", x.all(), 17);
        x.spend(0);
        Check.due("without it", x.all(), 13);
    }

    private static void richAndGuilty() {
        StolenHolidays x = Check.told(BOOK);
        Check.due("rich: equal ones", x.rich(), 0);
        Check.due("guilty: equal ones", x.guilty(), 0);
        x.steal(2, 1);
        x.night();
        Check.due("guilty", x.guilty(), 2);
        x.steal(1, 2);
        x.sell(1);
        Check.due("rich", x.rich(), 1);
        x.sell(2);
        Check.due("richer", x.rich(), 2);
        Check.due("guilty still", x.guilty(), 2);
        Check.nights(x, 8);
        x.steal(0, 1);
        x.night();
        Check.due("as guilty", x.guilty(), 0);
    }

    private static void days() {
        StolenHolidays x = Check.told(BOOK);
        x.steal(2, 3);
        x.steal(1, 3);
        Check.due("guard now", x.guards(3, 0), 6);
        x.steal(0, 1);
        Check.due("left now", x.later(3, 0), 0);
        Check.due("left behind 7", x.later(3, 7), 7);
        Check.due("left behind 60", x.later(3, 60), 10);
        Check.due("left of sun", x.later(1, 3), 7);
        Check.due("guard behind 1", x.guards(3, 1), 5);
        Check.due("guard behind 2", x.guards(3, 2), 4);
        Check.due("guard behind 60", x.guards(3, 60), 4);
    }

    private static void keeping(String kind, int[] want) {
        StolenHolidays x = Check.told("day a " + kind + " worth 24 guard 0;thief t skill 9 sack 12;");
        x.steal(0, 0);
        for (int n = 0; n < want.length; n++) {
            Check.due(kind + " keeps behind " + n, x.keeps(0, n), want[n]);
        }
        Check.due(kind + " keeps behind 60", x.keeps(0, 60), kind.equals("sunday") ? 12 : 0);
    }

    private static void pieces() {
        keeping("plain", new int[] {12, 12, 12, 12, 11, 10, 9, 8, 7, 6, 5, 4, 3, 2, 1, 0, 0});
        keeping("sunday", new int[] {12, 12, 12, 12, 12, 12});
        keeping("wet", new int[] {12, 6, 3, 1, 0, 0});
        keeping("feast", new int[] {12, 12, 12, 12, 0, 0});
        StolenHolidays x = Check.told(BOOK);
        Check.due("none", x.keeps(0, 5), 0);
        x.steal(0, 0);
        Check.nights(x, 5);
        Check.due("a plain one, 5 old", x.keeps(0, 0), 2);
        Check.due("one more", x.keeps(0, 1), 1);
    }

    private static void freeing() {
        StolenHolidays x = Check.told("day a plain worth 24 guard 9;thief s skill 9 sack 1;thief t skill 0 sack 1;");
        Check.due("free", x.freed(0), 0);
        x.steal(1, 0);
        Check.due("nine", x.freed(1), 9);
        Check.nights(x, 4);
        Check.due("five", x.freed(1), 5);
    }

    private static void opening() {
        StolenHolidays x = Check.told(BOOK);
        Check.due("now", x.opens(0, 1), 0);
        Check.due("never", x.opens(1, 1), -1);
        x.steal(0, 1);
        Check.due("though they have a piece", x.opens(0, 1), 2);
        x.steal(1, 1);
        Check.due("once they are free", x.opens(1, 2), 5);
        x.steal(2, 0);
        Check.due("once there is any", x.opens(2, 0), 1);
        Check.due("once its guard is less", x.opens(1, 0), 5);
    }

    private static void wholes() {
        StolenHolidays x = Check.told(BOOK);
        Check.due("now", x.whole(), 0);
        x.steal(2, 3);
        x.steal(0, 0);
        Check.due("ten", x.whole(), 10);
        Check.nights(x, 4);
        Check.due("six", x.whole(), 6);
        Check.nights(x, 8);
        Check.due("by now", x.whole(), 0);
    }

    private static void wait(String law, String kind, int when, int paid) {
        StolenHolidays x = Check.told("day a " + kind + " worth 24 guard 0;thief t skill 9 sack 6;pays " + law + ";");
        Check.due("none", x.waits(0, 0), -1);
        x.steal(0, 0);
        Check.due("waits: " + law, x.waits(0, 0), when);
        Check.due("waits, price: " + law, x.waits(0, 1), paid);
    }

    private static void waiting() {
        wait("much", "plain", 0, 6);
        wait("old", "sunday", 30, 30);
        wait("old", "plain", 8, 8);
        wait("old", "wet", 2, 2);
        wait("old", "feast", 3, 3);
        wait("much*old", "plain", 4, 20);
        wait("old=20", "sunday", 20, 1);
        wait("old=31", "sunday", 0, 0);
        wait("0-old", "sunday", 0, 0);
        wait("old*7", "sunday", 15, 99);
        // What is none brings nothing, though the law would pay for it.
        wait("99*(much=0)", "wet", 0, 0);
        wait("much*4", "feast", 0, 24);
    }

    private static void waitingByDate() {
        StolenHolidays x = Check.told("day a sunday worth 24 guard 0;thief t skill 9 sack 6;pays 5*(date=9)+(date=4);");
        Check.nights(x, 3);
        x.steal(0, 0);
        Check.due("when", x.waits(0, 0), 6);
        Check.due("what", x.waits(0, 1), 5);
        Check.nights(x, 7);
        Check.due("too late", x.waits(0, 0), 0);
        Check.due("nothing", x.waits(0, 1), 0);
        Check.due("the price too", x.price(0), 0);
    }

    private static void gladness() {
        StolenHolidays x = Check.told("day s sunday worth 24 guard 0;day p plain worth 24 guard 0;thief t skill 9 sack 4;");
        Check.due("none", x.glads(0, 0), -1);
        x.steal(0, 0);
        Check.due("now", x.glads(0, 0), 0);
        Check.due("four", x.glads(0, 1), 4);
        Check.nights(x, 3);
        Check.due("still now", x.glads(0, 0), 0);
        Check.due("one", x.glads(0, 1), 1);
        Check.nights(x, 3);
        Check.due("of equal ones the first", x.glads(0, 0), 0);
        Check.due("nothing", x.glads(0, 1), 0);
        x.sell(0);
        x.steal(0, 1);
        Check.due("guilt of another one", x.glads(0, 1), 0);
        x.spend(0);
        x.steal(0, 1);
        Check.due("without guilt", x.glads(0, 1), 4);
    }

    private static void slackness() {
        StolenHolidays x = Check.told(BOOK);
        Check.due("whit", x.slack(0), 2);
        x.steal(0, 2);
        Check.due("mon", x.slack(0), 0);
        Check.due("of equal ones the first", x.slack(1), 0);
        Check.due("whit again", x.slack(2), 2);
        Check.due("behind 60", x.slack(60), 2);
    }

    private static void nothingIsDone() {
        StolenHolidays x = Check.told(BOOK);
        x.steal(0, 1);
        x.keeps(0, 60);
        x.later(1, 60);
        x.guards(1, 60);
        x.opens(0, 1);
        x.waits(0, 0);
        x.glads(0, 0);
        x.slack(60);
        Check.due("night", x.count(2), 0);
        Check.due("left", x.day(1, 2), 4);
        Check.due("guard", x.day(1, 3), 7);
        Check.due("old", x.thief(0, 4), 0);
        Check.due("guilt", x.thief(0, 6), 0);
        Check.due("to undo", x.count(10), 1);
    }
}
