/** Promises 5 to 10 at their edges: day, thief, steal, sell, spend, swap. */
final class HandEdges {
    private HandEdges() {
    }

    static void run() {
        dayOthers();
        dayWhats();
        thiefOthers();
        thiefWhats();
        thiefWithoutPiece();
        stealOpenOrCaught();
        stealAnyLeft();
        stealSack();
        stealPiece();
        stealGuardByTwo();
        stealCaughtFor();
        stealFree();
        stealWithoutPiece();
        stealCant();
        sellPrice();
        sellThen();
        sellCant();
        spendLessGuilt();
        spendThen();
        spendCant();
        swapThem();
        swapCant();
    }

    static StolenHolidays told(String kind, int worth, int guard, int skill, int sack) {
        return Check.told("day a " + kind + " worth " + worth + " guard " + guard + ";thief t skill " + skill + " sack " + sack
                + ";");
    }

    private static void dayOthers() {
        Check.sentence(5, "4: guard as told; NONE: others.");
        StolenHolidays x = Twins.lived();
        for (int what = 0; what <= 4; what++) {
            Check.due("day -1, " + what, x.day(-1, what), -1);
            Check.due("day 3 of three, " + what, x.day(3, what), -1);
            Check.due("day 8, " + what, x.day(8, what), -1);
        }
        for (int d = 0; d < 3; d++) {
            Check.due("what -1", x.day(d, -1), -1);
            Check.due("what 4", x.day(d, 4), d == 0 ? 2 : d == 1 ? 5 : 1);
            Check.due("what 5", x.day(d, 5), -1);
        }
        for (int wild : Check.WILD) {
            Check.due("day " + wild, x.day(wild, 0), -1);
            Check.due("what " + wild, x.day(0, wild), -1);
        }
        x = Check.told(AlmanacEdges.days(8));
        Check.due("the eighth", x.day(7, 1), 8);
        Check.due("no ninth", x.day(8, 1), -1);
        Check.due("none", new StolenHolidays().day(0, 0), -1);
        Twins.leavesAll("day", y -> y.day(1, 3));
    }

    private static void dayWhats() {
        Check.sentence(5, "Of a DAY, what 0: KIND (0 plain, 1 sunday, 2 wet, 3 feast), 1: worth, 2: how much is left, 3: guard");
        String[] kinds = {"plain", "sunday", "wet", "feast"};
        for (int kind = 0; kind < 4; kind++) {
            StolenHolidays x = told(kinds[kind], 24, 3, 9, 5);
            x.steal(0, 0);
            int[] want = {kind, 24, 19, 5, 3};
            for (int what = 0; what < want.length; what++) {
                Check.due(kinds[kind] + " what " + what, x.day(0, what), want[what]);
            }
        }
    }

    private static void thiefOthers() {
        Check.sentence(6, "7: coins, 8: JOY; -2: others.");
        StolenHolidays x = Twins.lived();
        for (int what = 0; what <= 8; what++) {
            Check.due("thief -1, " + what, x.thief(-1, what), -2);
            Check.due("thief 3 of three, " + what, x.thief(3, what), -2);
            Check.due("thief 4, " + what, x.thief(4, what), -2);
        }
        for (int t = 0; t < 3; t++) {
            Check.due("what -1", x.thief(t, -1), -2);
            Check.due("what 9", x.thief(t, 9), -2);
        }
        for (int wild : Check.WILD) {
            Check.due("thief " + wild, x.thief(wild, 0), -2);
            Check.due("what " + wild, x.thief(0, wild), -2);
        }
        x = Check.told(AlmanacEdges.thieves(4));
        Check.due("the fourth", x.thief(3, 0), 6);
        Check.due("no fifth", x.thief(4, 0), -2);
        Check.due("none", new StolenHolidays().thief(0, 0), -2);
        Twins.leavesAll("thief", y -> y.thief(0, 2));
    }

    private static void thiefWhats() {
        Check.sentence(6, "Of a THIEF, what 0: skill, 1: sack, 2: how much the PIECE is (0: none), 3: its KIND (NONE: none),"
                + " 4: how old it is (NONE: none), 5: for how many nights CAUGHT, 6: guilt, 7: coins, 8: JOY");
        StolenHolidays x = Twins.lived();
        int[][] want = {{5, 4, 4, 1, 1, 0, 1, 0, 0}, {2, 7, 0, -1, -1, 4, 0, 0, 0}, {9, 12, 0, -1, -1, 0, 0, 27, 6}};
        for (int t = 0; t < 3; t++) {
            for (int what = 0; what < 9; what++) {
                Check.due("thief " + t + ", what " + what, x.thief(t, what), want[t][what]);
            }
        }
    }

    private static void thiefWithoutPiece() {
        Check.sentence(6, "2: how much the PIECE is (0: none), 3: its KIND (NONE: none), 4: how old it is (NONE: none)");
        StolenHolidays x = told("plain", 24, 0, 9, 1);
        none("at first", x);
        x.steal(0, 0);
        Check.due("much", x.thief(0, 2), 1);
        Check.due("a plain one's kind is 0", x.thief(0, 3), 0);
        Check.due("none old", x.thief(0, 4), 0);
        x.sell(0);
        none("sold", x);
        x.steal(0, 0);
        x.spend(0);
        none("spent", x);
        x.steal(0, 0);
        Check.nights(x, 3);
        Check.due("3 old", x.thief(0, 4), 3);
        x.night();
        none("gone", x);
    }

    private static void none(String when, StolenHolidays x) {
        Check.due(when + ": much", x.thief(0, 2), 0);
        Check.due(when + ": kind", x.thief(0, 3), -1);
        Check.due(when + ": old", x.thief(0, 4), -1);
    }

    private static void stealOpenOrCaught() {
        Check.sentence(7, "A DAY is OPEN to a THIEF whose skill is as much as its guard, or more, if any of it is left.");
        for (int guard = 0; guard <= 9; guard++) {
            for (int skill = 0; skill <= 9; skill++) {
                StolenHolidays x = told("feast", 24, guard, skill, 5);
                boolean open = skill >= guard;
                String call = "steal by " + skill + " from " + guard;
                Check.due(call, x.steal(0, 0), open ? 5 : 0);
                Check.due(call + ": piece", x.thief(0, 2), open ? 5 : 0);
                Check.due(call + ": caught", x.thief(0, 5), open ? 0 : guard - skill);
                Check.due(call + ": left", x.day(0, 2), open ? 19 : 24);
                Check.due(call + ": guard", x.day(0, 3), Math.min(9, guard + (open ? 2 : 1)));
                Check.due(call + ": guard as told", x.day(0, 4), guard);
                Check.due(call + ": can be undone", x.count(10), 1);
            }
        }
    }

    private static void stealAnyLeft() {
        Check.sentence(7, "from a DAY of which any is left");
        StolenHolidays x = Check.told("day a wet worth 2 guard 0;thief s skill 9 sack 1;thief t skill 9 sack 1;"
                + "thief u skill 9 sack 1;thief v skill 0 sack 1;");
        Check.due("2 left", x.steal(0, 0), 1);
        Check.due("1 left", x.steal(1, 0), 1);
        Check.due("none left", x.steal(2, 0), -1);
        Check.due("nobody is caught by nothing", x.steal(3, 0), -1);
        Check.due("the guard stays", x.day(0, 3), 4);
        Check.due("nothing to undo of it", x.count(10), 2);
        x.night();
        Check.due("1 again", x.steal(2, 0), 1);
        x.night();
        Check.due("caught by 1", x.steal(3, 0), 0);
    }

    private static void stealSack() {
        Check.sentence(7, "they have as much of it as their sack holds, or all that is left");
        for (int sack = 1; sack <= 12; sack++) {
            for (int worth = 1; worth <= 24; worth++) {
                StolenHolidays x = told("wet", worth, 0, 0, sack);
                int much = Math.min(sack, worth);
                Check.due("sack " + sack + " of " + worth, x.steal(0, 0), much);
                Check.due("piece", x.thief(0, 2), much);
                Check.due("the DAY has so much less", x.day(0, 2), worth - much);
            }
        }
    }

    private static void stealPiece() {
        Check.sentence(7, "a PIECE of its KIND, 0 old");
        StolenHolidays x = Check.told("day a plain worth 9 guard 0;day b sunday worth 9 guard 0;day c wet worth 9 guard 0;"
                + "day d feast worth 9 guard 0;thief t skill 9 sack 2;");
        for (int d = 0; d < 4; d++) {
            x.steal(0, d);
            Check.due("kind", x.thief(0, 3), d);
            Check.due("old", x.thief(0, 4), 0);
            x.night();
            Check.due("older", x.thief(0, 4), 1);
            x.sell(0);
        }
    }

    private static void stealGuardByTwo() {
        Check.sentence(7, "the DAY has so much less, its guard is 2 more, 9 at most");
        int[] then = {2, 3, 4, 5, 6, 7, 8, 9, 9, 9};
        for (int guard = 0; guard <= 9; guard++) {
            StolenHolidays x = told("wet", 24, guard, 9, 1);
            x.steal(0, 0);
            Check.due("guard " + guard, x.day(0, 3), then[guard]);
        }
    }

    private static void stealCaughtFor() {
        Check.sentence(7, "if it is not they are CAUGHT for as many nights as its guard is more than their skill, and its guard is"
                + " 1 more, 9 at most.");
        StolenHolidays x = Check.told("day a wet worth 9 guard 7;thief s skill 6 sack 1;thief t skill 6 sack 1;"
                + "thief u skill 6 sack 1;thief v skill 0 sack 1;");
        int[] nights = {1, 2, 3, 9};
        int[] guard = {8, 9, 9, 9};
        for (int t = 0; t < 4; t++) {
            Check.due("caught", x.steal(t, 0), 0);
            Check.due("for", x.thief(t, 5), nights[t]);
            Check.due("guard", x.day(0, 3), guard[t]);
            Check.due("all is left", x.day(0, 2), 9);
            Check.due("no piece", x.thief(t, 2), 0);
        }
    }

    private static void stealFree() {
        Check.sentence(7, "STEAL: a FREE THIEF without a PIECE");
        StolenHolidays x = Check.told("day a wet worth 9 guard 2;day b wet worth 9 guard 0;thief t skill 0 sack 1;");
        x.steal(0, 0);
        Check.due("caught for two", x.steal(0, 1), -1);
        x.night();
        Check.due("caught for one", x.steal(0, 1), -1);
        Check.due("the guard stays", x.day(1, 3), 0);
        x.night();
        Check.due("free", x.steal(0, 1), 1);
    }

    private static void stealWithoutPiece() {
        Check.sentence(7, "STEAL: a FREE THIEF without a PIECE");
        StolenHolidays x = Check.told("day a wet worth 9 guard 0;day b wet worth 9 guard 9;thief t skill 8 sack 1;");
        x.steal(0, 0);
        Check.due("with a piece", x.steal(0, 0), -1);
        Check.due("nor caught", x.steal(0, 1), -1);
        Check.due("free still", x.thief(0, 5), 0);
        Check.due("the guard stays", x.day(1, 3), 9);
        x.night();
        Check.due("it is gone", x.thief(0, 2), 0);
        Check.due("without", x.steal(0, 0), 1);
    }

    private static void stealCant() {
        Check.sentence(7, "STEAL: how much (0: CAUGHT); NONE: others, it can't be.");
        int[][] refused = {{-1, 0}, {3, 0}, {4, 0}, {2, -1}, {2, 3}, {2, 8}, {0, 0}, {0, 2}, {1, 0}, {1, 2}, {-1, -1}};
        for (int[] call : refused) {
            Twins.leavesAll("steal " + call[0] + ", " + call[1], x -> Check.due("refused", x.steal(call[0], call[1]), -1));
        }
        for (int wild : Check.WILD) {
            Twins.leavesAll("steal " + wild, x -> {
                Check.due("by", x.steal(wild, 0), -1);
                Check.due("from", x.steal(2, wild), -1);
            });
        }
    }

    private static void sellPrice() {
        Check.sentence(8, "SELL: a FREE THIEF with a PIECE gets its PRICE in coins, the E of pays (0 to 99), for it.");
        String[] laws = {"0-9999", "0-2", "0-1", "0", "1", "98", "99", "100", "9999", "4096*8*4096*16", "4096*8*4096*16-1"};
        int[] want = {0, 0, 0, 0, 1, 98, 99, 99, 99, 0, 99};
        for (int i = 0; i < laws.length; i++) {
            StolenHolidays x = Check.told("day a wet worth 9 guard 0;thief t skill 9 sack 4;pays " + laws[i] + ";");
            x.steal(0, 0);
            Check.due("price by " + laws[i], x.price(0), want[i]);
            Check.due("sold by " + laws[i], x.sell(0), want[i]);
            Check.due("coins", x.thief(0, 7), want[i]);
            Check.due("it is sold for nothing, too", x.thief(0, 2), 0);
            Check.due("and can be undone", x.count(10), 2);
        }
    }

    private static void sellThen() {
        Check.sentence(8, "Either has no PIECE then.");
        StolenHolidays x = Check.told("day a sunday worth 24 guard 0;thief t skill 9 sack 4;pays 60+old;");
        x.steal(0, 0);
        Check.nights(x, 2);
        Check.due("sold", x.sell(0), 62);
        none("sold", x);
        Check.due("guilt stays", x.thief(0, 6), 2);
        Check.due("no joy", x.thief(0, 8), 0);
        Check.due("left stays", x.day(0, 2), 22);
        Check.due("can steal", x.steal(0, 0), 4);
        Check.due("sold again", x.sell(0), 60);
        Check.due("coins come to coins", x.thief(0, 7), 122);
    }

    private static void sellCant() {
        Check.sentence(8, "SELL: the PRICE; NONE: others, it can't be.");
        // cy has no PIECE, bo is CAUGHT.
        int[] refused = {-1, 1, 2, 3, 4, 8};
        for (int thief : refused) {
            Twins.leavesAll("sell " + thief, x -> Check.due("refused", x.sell(thief), -1));
        }
        Twins.leavesAll("sell", x -> {
            for (int wild : Check.WILD) {
                Check.due("sell " + wild, x.sell(wild), -1);
            }
        });
        StolenHolidays x = Twins.lived();
        Check.due("al could", x.sell(0), 12);
        Check.due("not twice", x.sell(0), -1);
    }

    private static void spendLessGuilt() {
        Check.sentence(9, "SPEND: a FREE one with a PIECE has as much more JOY as it is, less their guilt, 0 at least; they have no"
                + " guilt then.");
        for (int sack = 1; sack <= 12; sack++) {
            for (int nights = 0; nights <= 11; nights++) {
                StolenHolidays x = told("sunday", 24, 0, 9, sack);
                x.steal(0, 0);
                Check.nights(x, nights);
                int joy = Math.max(0, sack - Math.min(9, nights));
                Check.due("of " + sack + " behind " + nights, x.spend(0), joy);
                Check.due("joy", x.thief(0, 8), joy);
                Check.due("no guilt", x.thief(0, 6), 0);
                Check.due("spent for nothing, too", x.thief(0, 2), 0);
            }
        }
    }

    private static void spendThen() {
        Check.sentence(9, "Either has no PIECE then.");
        StolenHolidays x = told("sunday", 24, 0, 9, 4);
        x.steal(0, 0);
        Check.due("all of it", x.spend(0), 4);
        none("spent", x);
        Check.due("no coins", x.thief(0, 7), 0);
        Check.due("can steal", x.steal(0, 0), 4);
        Check.due("spent again", x.spend(0), 4);
        Check.due("joy comes to joy", x.thief(0, 8), 8);
        Check.due("four were done", x.count(10), 4);
    }

    private static void spendCant() {
        Check.sentence(9, "SPEND: how much more JOY; NONE: others, it can't be.");
        int[] refused = {-1, 1, 2, 3, 4, 8};
        for (int thief : refused) {
            Twins.leavesAll("spend " + thief, x -> Check.due("refused", x.spend(thief), -1));
        }
        Twins.leavesAll("spend", x -> {
            for (int wild : Check.WILD) {
                Check.due("spend " + wild, x.spend(wild), -1);
            }
        });
        // Guilt stays by a refused one.
        StolenHolidays x = told("sunday", 24, 0, 9, 4);
        x.steal(0, 0);
        x.night();
        x.sell(0);
        Check.due("without a piece", x.spend(0), -1);
        Check.due("guilt stays", x.thief(0, 6), 1);
        x = Twins.lived();
        Check.due("al could", x.spend(0), 3);
        Check.due("not twice", x.spend(0), -1);
    }

    private static void swapThem() {
        Check.sentence(10, "SWAP: two FREE ones who both have a PIECE change them.");
        StolenHolidays x = Twins.lived();
        x.steal(2, 2);
        Check.due("both have one", x.swap(0, 2), true);
        int[][] want = {{1, 2, 0}, {4, 1, 1}};
        for (int i = 0; i < 3; i++) {
            Check.due("al's " + i, x.thief(0, 2 + i), want[0][i]);
            Check.due("cy's " + i, x.thief(2, 2 + i), want[1][i]);
        }
        Check.due("guilt stays al's", x.thief(0, 6), 1);
        Check.due("cy has none", x.thief(2, 6), 0);
        Check.due("the coins stay", x.thief(2, 7), 27);
        Check.due("back again", x.swap(2, 0), true);
        Check.due("much", x.thief(0, 2), 4);
        Check.due("old", x.thief(0, 4), 1);
        Check.due("all can be undone", x.count(10), 10);
        x.swap(0, 2);
        x.night();
        Check.due("whoever has the sunday has the guilt", x.thief(2, 6), 1);
        Check.due("who had it has no more", x.thief(0, 6), 1);
        Check.due("the wet one is gone", x.thief(0, 2), 0);
    }

    private static void swapCant() {
        Check.sentence(10, "SWAP: true; false: others, the same, it can't be.");
        int[][] refused = {{0, 0}, {1, 1}, {2, 2}, {0, 1}, {1, 0}, {0, 2}, {2, 0}, {1, 2}, {2, 1}, {-1, 0}, {0, -1}, {3, 0}, {0, 3},
            {4, 0}, {0, 4}, {-1, -1}, {3, 3}};
        for (int[] call : refused) {
            Twins.leavesAll("swap " + call[0] + ", " + call[1], x -> Check.due("refused", x.swap(call[0], call[1]), false));
        }
        Twins.leavesAll("swap", x -> {
            for (int wild : Check.WILD) {
                Check.due("swap " + wild, x.swap(wild, 0), false);
                Check.due("swap with " + wild, x.swap(0, wild), false);
                Check.due("swap both " + wild, x.swap(wild, wild), false);
            }
        });
    }
}
