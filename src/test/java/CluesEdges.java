import java.util.ArrayList;
import java.util.List;

/** Promises 33 to 38 at their edges: see, who, ask, chance, rests, years. */
final class CluesEdges {
    private CluesEdges() {
    }

    static void run() {
        seeEight();
        seeOthers();
        seeWithoutThieves();
        whoAllSeen();
        whoNights();
        whoOpenOrNot();
        whoWhenAsked();
        askTheLeast();
        askFirst();
        askLessThanAll();
        askNobody();
        chanceOthers();
        chanceOdds();
        chanceFree();
        chanceLeft();
        chanceNineAtMost();
        chanceAll();
        restsAll();
        restsOthers();
        yearsOthers();
        yearsDraws();
        yearsFirstDraws();
        yearsWithout();
        yearsFromNowOn();
        allStays();
    }

    private static void seeEight() {
        Check.sentence(33, "8 at most, as all is when it is asked");
        StolenHolidays x = Check.told(Twins.BOOK);
        for (int i = 1; i <= 8; i++) {
            Check.due("seen " + i, x.see(0, 0, true), true);
            Check.due("so many", x.count(9), i);
        }
        Check.sentence(33, "SEEN: true; false: others, 8 there are.");
        Check.due("who", x.who(), 7);
        Check.due("a ninth", x.see(1, 0, true), false);
        Check.due("a tenth", x.see(0, 0, false), false);
        Check.due("eight there are", x.count(9), 8);
        Check.due("they are as they were", x.who(), 7);
        Check.due("not to be undone", x.undo(), false);
    }

    private static void seeOthers() {
        Check.sentence(33, "SEEN: true; false: others, 8 there are.");
        int[][] refused = {{-1, 0}, {3, 0}, {8, 0}, {0, -1}, {0, 31}, {0, 60}, {-1, -1}};
        for (int[] call : refused) {
            for (boolean open : new boolean[] {false, true}) {
                Twins.leavesAll("see " + call[0] + ", " + call[1],
                        x -> Check.due("refused", x.see(call[0], call[1], open), false));
            }
        }
        Twins.leavesAll("see", x -> {
            for (int wild : Check.WILD) {
                Check.due("see " + wild, x.see(wild, 0, true), false);
                Check.due("see behind " + wild, x.see(0, wild, true), false);
            }
        });
        StolenHolidays x = Twins.lived();
        Check.due("the first, behind 0", x.see(0, 0, true), true);
        Check.due("the last, behind 30", x.see(2, 30, true), true);
        Check.due("both came", x.count(9), 4);
        Check.due("nothing was done", x.count(10), 7);
    }

    private static void seeWithoutThieves() {
        Check.sentence(33, "SEEN: true; false: others, 8 there are.");
        Check.due("no days", new StolenHolidays().see(0, 0, true), false);
        Check.due("thieves alone", Check.told("thief t skill 1 sack 1;").see(0, 0, true), false);
        StolenHolidays x = Check.told("day a wet worth 1 guard 0;");
        Check.due("days alone", x.see(0, 0, true), true);
        Check.due("by nobody", x.who(), 0);
    }

    private static StolenHolidays four() {
        return Check.told("day a wet worth 9 guard 1;day b wet worth 9 guard 2;day c wet worth 9 guard 3;"
                + "thief s skill 0 sack 1;thief t skill 1 sack 1;thief u skill 2 sack 1;thief v skill 3 sack 1;");
    }

    private static void whoAllSeen() {
        Check.sentence(34, "WHO: THIEVES by whom all SEEN is so (bits).");
        StolenHolidays x = four();
        Check.due("nothing seen: all", x.who(), 15);
        x.see(0, 0, true);
        Check.due("a is open", x.who(), 14);
        x.see(2, 0, false);
        Check.due("c is not", x.who(), 6);
        x.see(1, 0, true);
        Check.due("b is open", x.who(), 4);
        x.see(1, 0, false);
        Check.due("b is not, too: nobody", x.who(), 0);
        Check.sentence(34, "WHO, as bits.");
        Check.due("no thieves", new StolenHolidays().who(), 0);
        for (int t = 1; t <= 4; t++) {
            Check.due("thieves " + t, Check.told(AlmanacEdges.thieves(t)).who(), (1 << t) - 1);
        }
    }

    private static void whoNights() {
        Check.sentence(34, "that an unknown THIEF, one of those told, behind so many (0 to 30) NIGHTS is FREE and a DAY is OPEN to"
                + " them, or is not");
        // s is CAUGHT for 9 nights; a is guarded by 6 now, by 0 behind six.
        for (int n = 0; n <= 30; n++) {
            for (boolean open : new boolean[] {true, false}) {
                StolenHolidays x = Check.told("day a wet worth 4 guard 0;day b wet worth 9 guard 9;thief s skill 0 sack 1;"
                        + "thief t skill 3 sack 1;thief u skill 5 sack 1;thief v skill 9 sack 1;");
                for (int i = 0; i < 3; i++) {
                    x.steal(3, 0);
                    x.spend(3);
                }
                x.steal(0, 1);
                x.see(0, n, open);
                int bits = (n >= 9 ? 1 : 0) | (n >= 3 ? 2 : 0) | (n >= 1 ? 4 : 0) | 8;
                Check.due("open behind " + n + ": " + open, x.who(), open ? bits : 15 - bits);
            }
        }
    }

    private static void whoOpenOrNot() {
        Check.sentence(34, "is FREE and a DAY is OPEN to them, or is not");
        StolenHolidays x = Check.told("day a wet worth 1 guard 0;thief s skill 0 sack 1;thief t skill 9 sack 1;");
        x.steal(1, 0);
        x.see(0, 0, false);
        Check.due("nothing is left: not open to any", x.who(), 3);
        x.see(0, 1, true);
        Check.due("1 behind one night, guarded by 1", x.who(), 2);
    }

    private static void whoWhenAsked() {
        Check.sentence(34, "as all is when it is asked");
        StolenHolidays x = Check.told("day a wet worth 9 guard 0;day b wet worth 9 guard 3;thief s skill 0 sack 1;"
                + "thief t skill 1 sack 1;thief u skill 9 sack 1;");
        x.see(0, 1, true);
        Check.due("all", x.who(), 7);
        x.steal(2, 0);
        Check.due("guard 2, 1 behind one", x.who(), 6);
        x.night();
        Check.due("guard 1, 0 behind one", x.who(), 7);
        x.undo();
        Check.due("undone", x.who(), 6);
        x.steal(1, 1);
        Check.due("t is caught for 2", x.who(), 4);
        x.night();
        Check.due("for 1: free behind one", x.who(), 7);
    }

    private static void askTheLeast() {
        Check.sentence(35, "ASK: the number of NIGHTS (0 to 30) and the DAY by which the greater number of WHO by whom it is so, or"
                + " not, is the least");
        StolenHolidays x = four();
        Check.due("a parts 1 and 3, b 2 and 2", x.ask(), 1);
        x.see(0, 0, true);
        Check.due("of t, u, v b parts 1 and 2, c 2 and 1: the first", x.ask(), 1);
        x.see(1, 0, true);
        Check.due("of u, v c", x.ask(), 2);
    }

    private static void askFirst() {
        Check.sentence(35, "of equal ones the first by NIGHTS, then DAYS");
        Check.due("of equal days", Check.told("day a wet worth 9 guard 0;day b wet worth 9 guard 1;day c wet worth 9 guard 1;"
                + "thief s skill 0 sack 1;thief t skill 1 sack 1;").ask(), 1);
        StolenHolidays x = Check.told("day a wet worth 1 guard 0;day b wet worth 9 guard 1;thief s skill 0 sack 1;"
                + "thief t skill 1 sack 1;thief u skill 9 sack 1;");
        Check.due("b now: 2 and 1", x.ask(), 1);
        x.steal(2, 0);
        // a, guarded by 2, is empty now, guarded by 1 behind one night: b now comes ahead of that.
        Check.due("b now, a behind one night", x.ask(), 1);
        x = Check.told("day a wet worth 1 guard 0;thief s skill 0 sack 1;thief t skill 1 sack 1;");
        Check.due("open to both", x.ask(), -1);
        x.steal(1, 0);
        Check.due("empty now; behind one night", x.ask(), 8);
        Check.sentence(35, "ASK, as 8 * the NIGHTS + the DAY; NONE: none parts them.");
        x = Check.told(AlmanacEdges.days(7) + "day z wet worth 9 guard 9;thief s skill 9 sack 1;thief t skill 8 sack 1;");
        Check.due("the eighth day now", x.ask(), 7);
    }

    private static void askLessThanAll() {
        Check.sentence(35, "is the least, if that is less than all");
        StolenHolidays x = Check.told("day a wet worth 9 guard 1;thief s skill 1 sack 1;thief t skill 1 sack 1;");
        Check.due("alike", x.ask(), -1);
        x = Check.told("day a wet worth 9 guard 1;thief s skill 1 sack 1;thief t skill 0 sack 1;");
        Check.due("not alike", x.ask(), 0);
        x.see(0, 0, true);
        Check.due("one is left", x.ask(), -1);
        x = Check.told("day a wet worth 9 guard 1;thief s skill 1 sack 1;thief t skill 1 sack 1;thief u skill 1 sack 1;"
                + "thief v skill 0 sack 1;");
        Check.due("3 and 1 is less than 4", x.ask(), 0);
        // CAUGHT for 9 nights and for 8: behind 8 one is FREE alone.
        x = Check.told("day a wet worth 9 guard 0;day b wet worth 9 guard 8;thief s skill 0 sack 1;thief t skill 0 sack 1;");
        x.steal(0, 1);
        x.steal(1, 1);
        Check.due("8 nights", x.ask(), 8 * 8);
    }

    private static void askNobody() {
        Check.sentence(35, "NONE: none parts them");
        Check.due("nobody", new StolenHolidays().ask(), -1);
        Check.due("thieves alone", Check.told("thief s skill 0 sack 1;thief t skill 9 sack 1;").ask(), -1);
        Check.due("days alone", Check.told("day a wet worth 9 guard 1;").ask(), -1);
        StolenHolidays x = four();
        x.see(0, 0, true);
        x.see(0, 0, false);
        Check.due("nobody is left", x.ask(), -1);
    }

    private static void chanceOthers() {
        Check.sentence(36, "CHANCE, by odds (0 to 10); NONE: others.");
        StolenHolidays x = Twins.lived();
        int[][] refused = {{-1, 0, 1, 5}, {3, 0, 1, 5}, {2, -1, 1, 5}, {2, 3, 1, 5}, {2, 0, 0, 5}, {2, 0, -1, 5}, {2, 0, 7, 5},
            {2, 0, 1, -1}, {2, 0, 1, 11}};
        for (int[] call : refused) {
            Check.due("chance " + call[0] + ", " + call[1] + ", " + call[2] + ", " + call[3],
                    x.chance(call[0], call[1], call[2], call[3]), -1);
        }
        for (int wild : Check.WILD) {
            Check.due("of " + wild, x.chance(wild, 0, 1, 5), -1);
            Check.due("from " + wild, x.chance(2, wild, 1, 5), -1);
            Check.due("nights " + wild, x.chance(2, 0, wild, 5), -1);
            Check.due("odds " + wild, x.chance(2, 0, 1, wild), -1);
        }
        int[][] fine = {{2, 2, 1, 0}, {2, 0, 6, 10}, {0, 0, 1, 0}};
        for (int[] call : fine) {
            Check.due("chance " + call[2] + ", " + call[3], x.chance(call[0], call[1], call[2], call[3]), 1000000);
        }
        Check.due("nobody", new StolenHolidays().chance(0, 0, 1, 5), -1);
    }

    private static void chanceOdds() {
        Check.sentence(36, "by odds of ten, constables come");
        StolenHolidays x = HandEdges.told("wet", 9, 2, 3, 1);
        for (int odds = 0; odds <= 10; odds++) {
            Check.due("none may come, by " + odds, x.chance(0, 0, 1, odds), 100000 * (10 - odds));
        }
        Check.sentence(36, "all guards are 3 more, 9 at most");
        x = HandEdges.told("wet", 9, 2, 4, 1);
        // 2 and 3 more is 5, less 1 by the NIGHT is 4.
        Check.due("4 is enough", x.chance(0, 0, 1, 10), 1000000);
        Check.due("not twice", x.chance(0, 0, 2, 10), 0);
        Check.due("once in two", x.chance(0, 0, 2, 1), 990000);
    }

    private static void chanceFree() {
        Check.sentence(36, "that behind these a THIEF is FREE and a DAY is OPEN to them, in millionths, cut");
        for (int guard = 1; guard <= 7; guard++) {
            StolenHolidays x = Check.told("day a wet worth 9 guard 0;day b wet worth 9 guard " + guard
                    + ";thief t skill 0 sack 1;");
            x.steal(0, 1);
            for (int nights = 1; nights <= 6; nights++) {
                Check.due("caught for " + guard + ", behind " + nights, x.chance(0, 0, nights, 0), nights >= guard ? 1000000 : 0);
            }
        }
        StolenHolidays x = Twins.lived();
        Check.due("with a piece, too", x.chance(0, 0, 1, 0), 1000000);
    }

    private static void chanceLeft() {
        Check.sentence(36, "a DAY is OPEN to them, in millionths, cut");
        StolenHolidays x = HandEdges.told("wet", 1, 0, 9, 1);
        x.steal(0, 0);
        Check.due("none is left now", x.day(0, 2), 0);
        Check.due("1 behind one", x.chance(0, 0, 1, 0), 1000000);
        Check.due("by any odds", x.chance(0, 0, 1, 10), 1000000);
    }

    private static void chanceNineAtMost() {
        Check.sentence(36, "all guards are 3 more, 9 at most");
        StolenHolidays x = HandEdges.told("wet", 9, 8, 8, 1);
        for (int nights = 1; nights <= 6; nights++) {
            // 8 and 3 more is 9 at most, 8 by the NIGHT.
            Check.due("skill 8 behind " + nights, x.chance(0, 0, nights, 10), 1000000);
        }
        x = HandEdges.told("wet", 9, 9, 8, 1);
        Check.due("9 as told stays", x.chance(0, 0, 1, 0), 0);
        x = HandEdges.told("wet", 9, 5, 7, 1);
        Check.due("5, 8, 7", x.chance(0, 0, 1, 10), 1000000);
        Check.due("7, 9, 8", x.chance(0, 0, 2, 10), 0);
        x = HandEdges.told("wet", 9, 0, 0, 1);
        // By one of ten: none in the last two of six (810,000), and what came ahead of these is worn off.
        Check.due("six nights", x.chance(0, 0, 6, 1), enumerated(0, 0, 0, 6, 1));
    }

    /** By each way in which constables come or not, one by one. */
    private static long enumerated(int now, int told, int skill, int nights, int odds) {
        long sum = 0;
        for (int ways = 0; ways < 1 << nights; ways++) {
            int guard = now;
            long weight = 1000000;
            for (int n = 0; n < nights; n++) {
                boolean come = (ways >> n & 1) == 1;
                weight = weight * (come ? odds : 10 - odds) / 10;
                guard = come ? Math.min(9, guard + 3) : guard;
                guard = guard > told ? guard - 1 : guard;
            }
            sum += guard <= skill ? weight : 0;
        }
        return sum;
    }

    private static void chanceAll() {
        Check.sentence(36, "CHANCE: ahead of each of so many (1 to 6) NIGHTS, by odds of ten, constables come: all guards are 3 more,"
                + " 9 at most: that behind these a THIEF is FREE and a DAY is OPEN to them, in millionths, cut.");
        int[] odds = {0, 1, 3, 5, 9, 10};
        for (int told = 0; told <= 9; told++) {
            for (int skill = 0; skill <= 9; skill++) {
                StolenHolidays x = Check.told("day a wet worth 9 guard " + told + ";thief t skill " + skill + " sack 1;"
                        + "thief u skill 9 sack 1;");
                for (int stolen = 0; stolen <= 1; stolen++) {
                    for (int nights = 1; nights <= 6; nights++) {
                        for (int by : odds) {
                            Check.due("of " + told + " by " + skill + ", " + nights + " nights, odds " + by,
                                    x.chance(0, 0, nights, by), enumerated(x.day(0, 3), told, skill, nights, by));
                        }
                    }
                    x.steal(1, 0);
                }
            }
        }
    }

    private static int gets(int one, int other, int lose, int tells, int not) {
        return one == 1 && other == 1 ? -lose : one == 1 ? tells : other == 1 ? not : 0;
    }

    private static List<Integer> rests(int lose, int tells, int not) {
        List<Integer> found = new ArrayList<>();
        for (int first = 0; first <= 1; first++) {
            for (int other = 0; other <= 1; other++) {
                boolean firstStays = gets(first, other, lose, tells, not) >= gets(1 - first, other, lose, tells, not);
                boolean otherStays = gets(other, first, lose, tells, not) >= gets(1 - other, first, lose, tells, not);
                if (firstStays && otherStays) {
                    found.add(2 * first + other);
                }
            }
        }
        return found;
    }

    private static void restsAll() {
        Check.sentence(37, "what NONE: how many; i: the i-th as 2 * the first one's choice + the other one's (1 tells; the least first)");
        for (int lose = 0; lose <= 9; lose++) {
            for (int tells = 0; tells <= 9; tells++) {
                StolenHolidays x = new StolenHolidays();
                for (int not = 0; not <= 9; not++) {
                    List<Integer> want = rests(lose, tells, not);
                    String call = "rests " + lose + ", " + tells + ", " + not;
                    Check.due(call, Check.rests(x, lose, tells, not, -1), want.size());
                    for (int i = 0; i < want.size(); i++) {
                        Check.due(call + ": " + i, Check.rests(x, lose, tells, not, i), want.get(i));
                    }
                    Check.due(call + ": one beyond", Check.rests(x, lose, tells, not, want.size()), Check.THROWN);
                    Check.due(call + ": -2", Check.rests(x, lose, tells, not, -2), Check.THROWN);
                }
            }
        }
        Check.sentence(37, "RESTS: by which neither would get more by the other.");
        StolenHolidays x = new StolenHolidays();
        Check.due("all alike: four", Check.rests(x, 0, 0, 0, -1), 4);
        Check.due("the last of four", Check.rests(x, 0, 0, 0, 3), 3);
        Check.due("neither loses by telling alone for nothing", Check.rests(x, 1, 0, 0, 0), 0);
        Check.due("one more for telling", Check.rests(x, 1, 1, 0, 0), 1);
        Check.due("both tell, if not telling gets as little", Check.rests(x, 0, 1, 0, 2), 3);
        Check.due("but not if it gets one more", Check.rests(x, 0, 1, 1, -1), 2);
    }

    private static void restsOthers() {
        Check.sentence(37, "NoSuchElementException: others, none such.");
        StolenHolidays x = new StolenHolidays();
        for (int what = -1; what <= 0; what++) {
            for (int wrong : new int[] {-1, 10, -10, 11}) {
                Check.due("lose " + wrong, Check.rests(x, wrong, 1, 1, what), Check.THROWN);
                Check.due("tells " + wrong, Check.rests(x, 1, wrong, 1, what), Check.THROWN);
                Check.due("not " + wrong, Check.rests(x, 1, 1, wrong, what), Check.THROWN);
            }
            for (int wild : Check.WILD) {
                Check.due("lose " + wild, Check.rests(x, wild, 1, 1, what), Check.THROWN);
                Check.due("tells " + wild, Check.rests(x, 1, wild, 1, what), Check.THROWN);
                Check.due("not " + wild, Check.rests(x, 1, 1, wild, what), Check.THROWN);
            }
        }
        for (int wild : Check.WILD) {
            Check.due("what " + wild, Check.rests(x, 1, 1, 1, wild), Check.THROWN);
        }
        Check.due("0 and 9 are fine", Check.rests(x, 9, 0, 9, -1), rests(9, 0, 9).size());
        Check.due("9 and 0 are fine", Check.rests(x, 0, 9, 0, -1), rests(0, 9, 0).size());
        Twins.leavesAll("rests", y -> {
            Check.due("thrown", Check.rests(y, 10, 0, 0, 0), Check.THROWN);
            Check.due("thrown", Check.rests(y, 1, 1, 1, 4), Check.THROWN);
            Check.rests(y, 1, 1, 1, 0);
        });
    }

    private static void yearsOthers() {
        Check.sentence(38, "YEARS by a SEED (0 to 9999), what 0: taken, 1: coins, 2: bits; NONE: others.");
        StolenHolidays x = Twins.lived();
        int[][] refused = {{-1, 1, 0}, {10000, 1, 0}, {0, 0, 0}, {0, -1, 0}, {0, 100, 0}, {0, 1, -1}, {0, 1, 3}, {-1, 0, 3}};
        for (int[] call : refused) {
            Check.due("years " + call[0] + ", " + call[1] + ", " + call[2], x.years(call[0], call[1], call[2]), -1);
        }
        for (int wild : Check.WILD) {
            Check.due("seed " + wild, x.years(wild, 1, 0), -1);
            Check.due("nights " + wild, x.years(0, wild, 0), -1);
            Check.due("what " + wild, x.years(0, 1, wild), -1);
        }
        for (int what = 0; what <= 2; what++) {
            Check.due("the least", x.years(0, 1, what) >= 0, true);
            Check.due("the greatest", x.years(9999, 99, what) >= 0, true);
        }
    }

    private static void yearsDraws() {
        Check.sentence(38, "A DRAW below m: g becomes (g * 1103515245 + 12345) modulo 2147483648 (g is the SEED at first); it is"
                + " g / 65536, cut, modulo m.");
        int[] seeds = {0, 1, 2, 4999, 9998, 9999};
        int[] nights = {1, 2, 50, 98, 99};
        for (int seed : seeds) {
            for (int n : nights) {
                CluesTest.sameByHand(Twins.BOOK, seed, n);
                CluesTest.sameByHand("day a sunday worth 24 guard 0;thief t skill 9 sack 3;", seed, n);
            }
            CluesTest.sameByHand(AlmanacEdges.days(8) + AlmanacEdges.thieves(4) + "pays date+much;", seed, 99);
        }
    }

    private static void yearsFirstDraws() {
        Check.sentence(38, "a DRAW below THIEVES, one below DAYS, one below 4: 0, 1: that one STEALS from that, 2: SELLS, 3: SPENDS"
                + " (each if it can be); then, also without these, the NIGHT");
        // By the SEED 0 the first g's are 12345, 1406932606, 654583775: they draw 0, 21468, 9988.
        StolenHolidays x = Check.told("day a feast worth 9 guard 0;day b feast worth 7 guard 2;thief s skill 0 sack 4;"
                + "thief t skill 9 sack 5;");
        Check.due("s steals 4 of a", x.years(0, 1, 0), 4);
        Check.due("for no coins", x.years(0, 1, 1), 0);
        Check.due("nobody is caught", x.years(0, 1, 2), 0);
        x = Check.told("day a feast worth 9 guard 2;thief s skill 0 sack 4;");
        Check.due("nothing is taken", x.years(0, 1, 0), 0);
        Check.due("s is caught for two, one behind the night", x.years(0, 1, 2), 1);
        x = Check.told("day a feast worth 9 guard 1;thief s skill 0 sack 4;");
        Check.due("for one: free behind it", x.years(0, 1, 2), 0);
        x.steal(0, 0);
        Check.due("caught already: can't be", x.years(0, 1, 0), 0);
    }

    private static void yearsWithout() {
        Check.sentence(38, "each, if there are THIEVES and DAYS");
        StolenHolidays[] without = {new StolenHolidays(), Check.told(AlmanacEdges.thieves(4)), Check.told(AlmanacEdges.days(8))};
        for (StolenHolidays x : without) {
            for (int what = 0; what <= 2; what++) {
                Check.due("nothing is drawn", x.years(9999, 99, what), 0);
                Check.due("nothing is drawn", x.years(0, 1, what), 0);
            }
        }
    }

    private static void yearsFromNowOn() {
        Check.sentence(38, "from now on (all is as ahead then)");
        StolenHolidays x = Twins.lived();
        Check.due("bo is caught for 4: 3 nights", x.years(0, 3, 2) & 2, 2);
        Check.due("coins that are there count", x.years(0, 1, 1) >= 27, true);
        StolenHolidays y = Twins.lived();
        y.undo();
        y.undo();
        Check.due("one step back he is not", y.years(0, 1, 2) & 2, 0);
        Check.due("the same again", x.years(5, 99, 0), x.years(5, 99, 0));
        Twins.leavesAll("years", z -> {
            z.years(0, 99, 0);
            z.years(9999, 99, 1);
            z.years(77, 1, 2);
            z.years(-1, 1, 2);
        });
    }

    private static void allStays() {
        Check.sentence(36, "CHANCE, by odds (0 to 10); NONE: others.");
        Twins.leavesAll("asking", x -> {
            x.who();
            x.ask();
            x.chance(2, 1, 6, 5);
            x.chance(2, 1, 7, 5);
        });
    }
}
