/** Promises 39 and 40 at their edges: mark, count. */
final class MarkEdges {
    private MarkEdges() {
    }

    static void run() {
        fourMarks();
        noneSuch();
        nothingOnIt();
        holdAll();
        eachItsOwn();
        laidAgain();
        goneBackAgain();
        seenOfEach();
        fullMarks();
        nothingUndone();
        layingLeavesAll();
        tapeStays();
        countOthers();
        countEach();
        countBits();
        countSums();
    }

    private static void fourMarks() {
        Check.sentence(39, "MARKS 0 to 3 hold how it is, the YEAR, what is SEEN");
        StolenHolidays x = new StolenHolidays();
        for (int mark = 0; mark < 4; mark++) {
            x.night();
            Check.due("lay " + mark, x.mark(mark, false), true);
        }
        for (int mark = 3; mark >= 0; mark--) {
            Check.due("back to " + mark, x.mark(mark, true), true);
            Check.due("its night", x.count(2), mark + 1);
        }
    }

    private static void noneSuch() {
        Check.sentence(39, "A MARK is laid (back: gone back to): true; false: none such");
        for (int mark : new int[] {-1, 4, 5, -2}) {
            for (boolean back : new boolean[] {false, true}) {
                Twins.leavesAll("mark " + mark + ", " + back, x -> Check.due("refused", x.mark(mark, back), false));
            }
        }
        Twins.leavesAll("mark", x -> {
            for (int wild : Check.WILD) {
                Check.due("lay " + wild, x.mark(wild, false), false);
                Check.due("back to " + wild, x.mark(wild, true), false);
            }
        });
    }

    private static void nothingOnIt() {
        Check.sentence(39, "false: none such, nothing is on it (back)");
        StolenHolidays x = new StolenHolidays();
        for (int mark = 0; mark < 4; mark++) {
            Check.due("back to " + mark, x.mark(mark, true), false);
        }
        x.mark(1, false);
        for (int mark = 0; mark < 4; mark++) {
            Check.due("back to " + mark, x.mark(mark, true), mark == 1);
        }
        for (int mark : new int[] {1, 3}) {
            Twins.leavesAll("back to " + mark, y -> Check.due("refused", y.mark(mark, true), false));
        }
    }

    private static void holdAll() {
        Check.sentence(39, "hold how it is, the YEAR, what is SEEN");
        StolenHolidays x = Twins.lived();
        Check.due("laid", x.mark(1, false), true);
        Check.readYear(x, "night;");
        x.see(0, 0, true);
        x.see(2, 3, false);
        x.sell(0);
        x.steal(2, 1);
        x.swap(0, 2);
        Check.nights(x, 7);
        x.spend(2);
        Check.due("gone back", x.mark(1, true), true);
        StolenHolidays y = Twins.lived();
        y.mark(1, false);
        y.mark(1, true);
        Twins.alikeInAll("all is as it was", x, y);
        x = Twins.lived();
        y = Twins.lived();
        x.mark(1, false);
        y.mark(1, false);
        x.night();
        x.mark(1, true);
        for (int what = 0; what <= 11; what++) {
            Check.due("count " + what, x.count(what), what == 10 ? 0 : y.count(what));
        }
    }

    private static void eachItsOwn() {
        Check.sentence(39, "MARKS 0 to 3 hold how it is");
        StolenHolidays x = Check.told("day a feast worth 9 guard 0;thief t skill 9 sack 2;");
        x.mark(0, false);
        x.steal(0, 0);
        x.mark(1, false);
        x.night();
        Check.readYear(x, "night;");
        x.mark(2, false);
        x.spend(0);
        x.see(0, 0, true);
        x.mark(3, false);
        int[][] want = {{0, 9, 0, 0, 0}, {0, 7, 1, 0, 0}, {1, 8, 1, 1, 0}, {1, 8, 0, 1, 1}};
        int[] order = {2, 0, 3, 1, 0, 3};
        int[] whats = {2, 3, 5, 8, 9};
        for (int mark : order) {
            x.mark(mark, true);
            for (int i = 0; i < whats.length; i++) {
                Check.due("mark " + mark + ", count " + whats[i], x.count(whats[i]), want[mark][i]);
            }
        }
    }

    private static void laidAgain() {
        Check.sentence(39, "A MARK is laid (back: gone back to): true");
        StolenHolidays x = new StolenHolidays();
        Check.due("laid", x.mark(2, false), true);
        x.night();
        Check.due("laid again", x.mark(2, false), true);
        x.night();
        Check.due("back", x.mark(2, true), true);
        Check.due("the later one is on it", x.count(2), 1);
    }

    private static void goneBackAgain() {
        Check.sentence(39, "A MARK is laid (back: gone back to): true");
        StolenHolidays x = Check.told(Twins.BOOK);
        x.see(1, 0, true);
        Check.readYear(x, "steal al mon;spend al;");
        x.mark(0, false);
        for (int i = 0; i < 3; i++) {
            x.steal(0, 1);
            x.see(0, 0, false);
            Check.readYear(x, "night;");
            x.night();
            Check.due("back", x.mark(0, true), true);
            Check.due("left", x.count(3), 23);
            Check.due("pieces", x.all(), 0);
            Check.due("seen", x.count(9), 1);
            Check.due("who", x.who(), 5);
            Check.due("lines", x.count(8), 2);
            Check.due("judged", x.judged(2), 4);
        }
    }

    private static void seenOfEach() {
        Check.sentence(39, "hold how it is, the YEAR, what is SEEN");
        // a is open to s behind two nights, to t now; b to t alone.
        int[][] clues = {{0, 2, 1}, {0, 1, 1}, {0, 0, 0}, {1, 0, 0}, {1, 2, 1}, {0, 1, 0}};
        int[] who = {3, 2, 1, 1, 2, 1};
        for (int one = 0; one < clues.length; one++) {
            for (int other = 0; other < clues.length; other++) {
                StolenHolidays x = Check.told("day a wet worth 9 guard 1;day b wet worth 9 guard 5;thief s skill 1 sack 1;"
                        + "thief t skill 9 sack 1;");
                x.steal(1, 0);
                x.mark(0, false);
                x.see(clues[one][0], clues[one][1], clues[one][2] == 1);
                x.mark(1, false);
                x.mark(0, true);
                x.see(clues[other][0], clues[other][1], clues[other][2] == 1);
                Check.due("another is seen", x.who(), who[other]);
                x.mark(2, false);
                x.mark(1, true);
                Check.due("the one that was", x.who(), who[one]);
                x.mark(2, true);
                Check.due("the other again", x.who(), who[other]);
                x.mark(0, true);
                Check.due("none", x.who(), 3);
            }
        }
    }

    private static void fullMarks() {
        Check.sentence(39, "hold how it is, the YEAR, what is SEEN");
        StolenHolidays x = Check.told(Twins.BOOK);
        String forty = "steal al mon;spend al;" + "night;".repeat(37) + "sell cy;";
        Check.readYear(x, forty);
        for (int i = 0; i < 8; i++) {
            x.see(i == 7 ? 1 : 0, 0, true);
        }
        Check.due("all eight count", x.who(), 5);
        x.mark(3, false);
        Check.readYear(x, "");
        x.mark(2, false);
        Check.due("back", x.mark(3, true), true);
        Check.due("eight", x.count(9), 8);
        Check.due("no ninth", x.see(0, 0, true), false);
        Check.due("who", x.who(), 5);
        Check.due("forty", x.count(8), 40);
        Check.due("the last line", x.judged(0), 39);
        Check.due("the first lines", x.judged(2), 4);
        x.mark(2, true);
        Check.due("no lines", x.count(8), 0);
    }

    private static void nothingUndone() {
        Check.sentence(39, "(nothing can be undone when one is gone back to)");
        StolenHolidays x = new StolenHolidays();
        Check.nights(x, 20);
        x.mark(0, false);
        Check.due("laying leaves it", x.count(10), 16);
        x.night();
        Check.due("back", x.mark(0, true), true);
        Check.due("nothing", x.count(10), 0);
        Check.due("undo", x.undo(), false);
        Check.due("the night", x.count(2), 20);
        Check.nights(x, 2);
        Check.due("two", x.count(10), 2);
        x.undo();
        x.undo();
        Check.due("not beyond", x.undo(), false);
        Check.due("the night", x.count(2), 20);
        // One that is refused leaves it.
        x.night();
        Check.due("nothing is on 1", x.mark(1, true), false);
        Check.due("one", x.count(10), 1);
        Check.due("undone", x.undo(), true);
    }

    private static void layingLeavesAll() {
        Check.sentence(39, "A MARK is laid (back: gone back to): true");
        StolenHolidays x = Twins.lived();
        x.mark(3, false);
        StolenHolidays y = Twins.lived();
        Twins.alike("laying leaves all", x, y);
        for (int i = 0; i < 7; i++) {
            Check.due("undone", x.undo(), true);
        }
        Check.due("no more", x.undo(), false);
        Check.due("the mark stays by that", x.mark(3, true), true);
        for (int what = 0; what <= 11; what++) {
            Check.due("count " + what, x.count(what), what == 10 ? 0 : y.count(what));
        }
    }

    private static void tapeStays() {
        Check.sentence(39, "MARKS 0 to 3 hold how it is, the YEAR, what is SEEN");
        StolenHolidays x = Check.told(Twins.BOOK);
        Check.feed(x, "sell");
        x.mark(0, false);
        Check.feed(x, " al;");
        x.mark(0, true);
        Check.due("signs", x.count(11), 8);
        Check.due("it is read", x.year(), 0);
        Check.due("a line", x.count(8), 1);
    }

    private static void countOthers() {
        Check.sentence(40, "NONE for another what.");
        StolenHolidays x = Twins.lived();
        Check.due("what -1", x.count(-1), -1);
        Check.due("what 12", x.count(12), -1);
        Check.due("what 13", x.count(13), -1);
        for (int wild : Check.WILD) {
            Check.due("what " + wild, x.count(wild), -1);
        }
        Twins.leavesAll("count", y -> {
            for (int what = -1; what <= 12; what++) {
                y.count(what);
            }
        });
    }

    private static void countEach() {
        Check.sentence(40, "What 0: DAYS, 1: THIEVES, 2: the night, 3: what is left of all DAYS, together, 4: who is CAUGHT, as bits,"
                + " 5: who has a PIECE, as bits, 6: coins of all, together, 7: JOY of all, together, 8: lines of the YEAR, 9: SEEN,"
                + " 10: what can be undone, 11: signs on the TAPE.");
        StolenHolidays x = Twins.lived();
        Check.feed(x, "abc");
        int[] want = {3, 3, 1, 1 + 5 + 1, 2, 1, 27, 6, 5, 2, 7, 3};
        for (int what = 0; what < want.length; what++) {
            Check.due("count " + what, x.count(what), want[what]);
        }
        x = Check.told(AlmanacEdges.days(8) + AlmanacEdges.thieves(4));
        int[] full = {8, 4, 0, 36, 0, 0, 0, 0, 0, 0, 0, 0};
        for (int what = 0; what < full.length; what++) {
            Check.due("count " + what, x.count(what), full[what]);
        }
    }

    private static void countBits() {
        Check.sentence(40, "4: who is CAUGHT, as bits, 5: who has a PIECE, as bits");
        for (int bits = 0; bits < 16; bits++) {
            StolenHolidays x = Check.told("day a feast worth 24 guard 0;day b feast worth 24 guard 9;thief s skill 8 sack 1;"
                    + "thief t skill 8 sack 1;thief u skill 8 sack 1;thief v skill 8 sack 1;");
            for (int t = 0; t < 4; t++) {
                x.steal(t, bits >> t & 1);
            }
            Check.due("caught", x.count(4), bits);
            Check.due("with a piece", x.count(5), 15 - bits);
            x.night();
            Check.due("free", x.count(4), 0);
            Check.due("with a piece", x.count(5), 15 - bits);
        }
    }

    private static void countSums() {
        Check.sentence(40, "6: coins of all, together, 7: JOY of all, together");
        StolenHolidays x = Check.told("day a feast worth 24 guard 0;thief s skill 9 sack 1;thief t skill 9 sack 2;"
                + "thief u skill 9 sack 3;thief v skill 9 sack 4;pays much*10;");
        int coins = 0;
        int joy = 0;
        for (int t = 0; t < 4; t++) {
            x.steal(t, 0);
            x.sell(t);
            coins += 10 * (t + 1);
            Check.due("coins", x.count(6), coins);
            x.steal(t, 0);
            x.spend(t);
            joy += t + 1;
            Check.due("joy", x.count(7), joy);
        }
        Check.due("left", x.count(3), 4);
        for (int n = 0; n < 16; n++) {
            x.undo();
        }
        Check.due("coins undone", x.count(6), 0);
        Check.due("joy undone", x.count(7), 0);
        Check.due("left again", x.count(3), 24);
    }
}
