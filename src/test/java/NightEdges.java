/** Promises 11 and 12 at their edges: night, undo. */
final class NightEdges {
    private NightEdges() {
    }

    static void run() {
        plain();
        wet();
        feast();
        sunday();
        nothingIsNone();
        daysMore();
        guardsLess();
        caughtLess();
        theNext();
        whoHas();
        undoEach();
        undoNothing();
        lastSixteen();
        undoneAndDone();
        notOfThese();
        undoRefused();
    }

    private static void piece(String kind, int sack, int... much) {
        StolenHolidays x = HandEdges.told(kind, 24, 0, 9, sack);
        x.steal(0, 0);
        for (int n = 0; n < much.length; n++) {
            Check.due(kind + " of " + sack + ", " + n + " old", x.thief(0, 2), much[n]);
            Check.due(kind + ": how old", x.thief(0, 4), much[n] > 0 ? n : -1);
            x.night();
        }
    }

    private static void plain() {
        Check.sentence(11, "each PIECE is 1 older; a plain one is 1 less then, if it is more than 3 old");
        piece("plain", 12, 12, 12, 12, 12, 11, 10, 9, 8, 7, 6, 5, 4, 3, 2, 1, 0, 0);
        piece("plain", 2, 2, 2, 2, 2, 1, 0, 0);
        piece("plain", 1, 1, 1, 1, 1, 0, 0);
    }

    private static void wet() {
        Check.sentence(11, "a wet one half as much, cut");
        piece("wet", 12, 12, 6, 3, 1, 0, 0);
        piece("wet", 11, 11, 5, 2, 1, 0);
        piece("wet", 8, 8, 4, 2, 1, 0);
        piece("wet", 3, 3, 1, 0);
        piece("wet", 2, 2, 1, 0);
        piece("wet", 1, 1, 0, 0);
    }

    private static void feast() {
        Check.sentence(11, "a feast is nothing once it is 4 old");
        piece("feast", 12, 12, 12, 12, 12, 0, 0);
        piece("feast", 1, 1, 1, 1, 1, 0, 0);
    }

    private static void sunday() {
        Check.sentence(11, "a sunday stays, but whoever has it has 1 guilt more, 9 at most");
        piece("sunday", 7, 7, 7, 7, 7, 7, 7, 7, 7, 7, 7, 7, 7);
        StolenHolidays x = HandEdges.told("sunday", 24, 0, 9, 7);
        x.steal(0, 0);
        for (int n = 0; n <= 12; n++) {
            Check.due("guilt behind " + n, x.thief(0, 6), Math.min(9, n));
            x.night();
        }
        x.sell(0);
        x.steal(0, 0);
        x.night();
        Check.due("9 at most, of another one too", x.thief(0, 6), 9);
        for (String kind : new String[] {"plain", "wet", "feast"}) {
            x = HandEdges.told(kind, 24, 0, 9, 12);
            x.steal(0, 0);
            Check.nights(x, 2);
            Check.due("no guilt by a " + kind, x.thief(0, 6), 0);
        }
        x = HandEdges.told("sunday", 24, 0, 9, 7);
        Check.nights(x, 2);
        Check.due("none without a piece", x.thief(0, 6), 0);
    }

    private static void nothingIsNone() {
        Check.sentence(11, "one that is nothing is none");
        StolenHolidays x = HandEdges.told("wet", 24, 0, 9, 1);
        x.steal(0, 0);
        Check.due("nobody has one", x.night(), 0);
        Check.due("no kind", x.thief(0, 3), -1);
        Check.due("no age", x.thief(0, 4), -1);
        Check.due("no price", x.price(0), -1);
        Check.due("not sold", x.sell(0), -1);
        Check.due("not spent", x.spend(0), -1);
        Check.due("another can be stolen", x.steal(0, 0), 1);
        Check.due("0 old", x.thief(0, 4), 0);
    }

    private static void daysMore() {
        Check.sentence(11, "Each DAY has 1 more, up to its worth");
        StolenHolidays x = Check.told("day a wet worth 3 guard 0;day b wet worth 12 guard 0;day c wet worth 1 guard 0;"
                + "thief s skill 9 sack 12;thief t skill 9 sack 12;");
        x.steal(0, 0);
        x.steal(1, 1);
        for (int n = 0; n <= 14; n++) {
            Check.due("a behind " + n, x.day(0, 2), Math.min(3, n));
            Check.due("b behind " + n, x.day(1, 2), Math.min(12, n));
            Check.due("c behind " + n, x.day(2, 2), 1);
            x.night();
        }
    }

    private static void guardsLess() {
        Check.sentence(11, "its guard is 1 less, if it is more than told");
        for (int told = 0; told <= 9; told++) {
            StolenHolidays x = HandEdges.told("wet", 24, told, 9, 1);
            x.night();
            Check.due("as told " + told, x.day(0, 3), told);
            x.steal(0, 0);
            int guard = Math.min(9, told + 2);
            for (int n = 0; n <= 3; n++) {
                Check.due("of " + told + " behind " + n, x.day(0, 3), Math.max(told, guard - n));
                x.night();
            }
        }
    }

    private static void caughtLess() {
        Check.sentence(11, "Who is CAUGHT is so for one night less.");
        for (int guard = 1; guard <= 9; guard++) {
            StolenHolidays x = HandEdges.told("wet", 24, guard, 0, 1);
            x.steal(0, 0);
            for (int n = 0; n <= 10; n++) {
                Check.due("for " + guard + " behind " + n, x.thief(0, 5), Math.max(0, guard - n));
                Check.due("bits", x.count(4), n < guard ? 1 : 0);
                x.night();
            }
        }
    }

    private static void theNext() {
        Check.sentence(11, "It is the next night.");
        StolenHolidays x = new StolenHolidays();
        for (int n = 0; n <= 100; n++) {
            Check.due("night", x.count(2), n);
            x.night();
        }
    }

    private static void whoHas() {
        Check.sentence(11, "NIGHT: THIEVES who have a PIECE then, as bits.");
        for (int bits = 0; bits < 16; bits++) {
            StolenHolidays x = Check.told("day a feast worth 24 guard 0;" + "thief s skill 9 sack 1;thief t skill 9 sack 1;"
                    + "thief u skill 9 sack 1;thief v skill 9 sack 1;");
            for (int t = 0; t < 4; t++) {
                if ((bits >> t & 1) == 1) {
                    x.steal(t, 0);
                }
            }
            for (int n = 1; n <= 5; n++) {
                Check.due("behind " + n, x.night(), n < 4 ? bits : 0);
            }
        }
        Check.due("no thieves", new StolenHolidays().night(), 0);
    }

    private static void undoes(String call, Twins.Doing doing) {
        StolenHolidays x = Twins.lived();
        x.steal(2, 2);
        StolenHolidays y = Twins.lived();
        y.steal(2, 2);
        doing.on(x);
        Check.due(call + " can be undone", x.count(10), y.count(10) + 1);
        Check.due(call + " is undone", x.undo(), true);
        Twins.alikeInAll(call, x, y);
    }

    private static void undoEach() {
        Check.sentence(12, "UNDO: all of these");
        undoes("sell", x -> Check.due("sell", x.sell(0), 12));
        undoes("spend", x -> Check.due("spend", x.spend(0), 3));
        undoes("swap", x -> Check.due("swap", x.swap(0, 2), true));
        undoes("night", x -> Check.due("night", x.night(), 1));
        StolenHolidays x = Twins.lived();
        Check.due("steal", x.steal(2, 1), 5);
        Check.due("undone", x.undo(), true);
        Twins.alikeInAll("steal", x, Twins.lived());
        x = Check.told("day a wet worth 9 guard 5;thief t skill 3 sack 1;");
        Check.due("caught", x.steal(0, 0), 0);
        Check.due("undone", x.undo(), true);
        Check.due("free", x.thief(0, 5), 0);
        Check.due("guard", x.day(0, 3), 5);
    }

    private static void undoNothing() {
        Check.sentence(12, "UNDO: true; false: nothing can be.");
        StolenHolidays x = new StolenHolidays();
        Check.due("at first", x.undo(), false);
        x.night();
        Check.due("one", x.undo(), true);
        Check.due("no more", x.undo(), false);
        Check.due("none", x.count(10), 0);
        Check.due("the night", x.count(2), 0);
        x.night();
        Check.due("one again", x.count(10), 1);
        Check.due("again", x.undo(), true);
    }

    private static void undone(int done, int want) {
        StolenHolidays x = Check.told("day a sunday worth 24 guard 0;thief t skill 9 sack 1;");
        x.steal(0, 0);
        x.undo();
        Check.nights(x, done);
        Check.due("of " + done, x.count(10), want);
        for (int i = 1; i <= want; i++) {
            Check.due("one by one", x.undo(), true);
            Check.due("the night", x.count(2), done - i);
            Check.due("left to undo", x.count(10), want - i);
        }
        Check.due("no more", x.undo(), false);
        Check.due("the night stays", x.count(2), done - want);
    }

    private static void lastSixteen() {
        Check.sentence(12, "UNDO: all of these, the last 16, one by one.");
        undone(1, 1);
        undone(15, 15);
        undone(16, 16);
        undone(17, 16);
        undone(31, 16);
        undone(32, 16);
        undone(33, 16);
        undone(100, 16);
    }

    private static void undoneAndDone() {
        Check.sentence(12, "UNDO: all of these, the last 16, one by one.");
        StolenHolidays x = new StolenHolidays();
        Check.nights(x, 20);
        for (int i = 0; i < 5; i++) {
            x.undo();
        }
        Check.due("eleven", x.count(10), 11);
        Check.nights(x, 4);
        Check.due("fifteen", x.count(10), 15);
        x.night();
        Check.due("sixteen", x.count(10), 16);
        x.night();
        Check.due("no more than sixteen", x.count(10), 16);
        Check.due("the night", x.count(2), 21);
        for (int i = 0; i < 16; i++) {
            Check.due("each", x.undo(), true);
        }
        Check.due("back to", x.count(2), 5);
        Check.due("not beyond", x.undo(), false);
    }

    private static void notOfThese() {
        Check.sentence(12, "UNDO: all of these");
        StolenHolidays x = Check.told(Twins.BOOK);
        x.night();
        Check.readYear(x, "night;night;");
        x.see(0, 0, true);
        x.mark(1, false);
        Check.feed(x, "abc");
        Check.due("one can be", x.count(10), 1);
        Check.due("the night", x.undo(), true);
        Check.due("it is undone", x.count(2), 0);
        Check.due("the year is there", x.count(8), 2);
        Check.due("what was seen is there", x.count(9), 1);
        Check.due("the tape is there", x.count(11), 3);
        Check.due("the mark is there", x.mark(1, true), true);
        Check.due("nothing else", x.undo(), false);
    }

    private static void undoRefused() {
        Check.sentence(12, "UNDO: true; false: nothing can be.");
        StolenHolidays x = Twins.lived();
        x.mark(2, true);
        StolenHolidays y = Twins.lived();
        y.mark(2, true);
        Check.due("nothing can be", x.undo(), false);
        Twins.alikeInAll("a refused undo", x, y);
    }
}
