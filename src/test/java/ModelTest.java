import java.util.NoSuchElementException;
import java.util.Random;

/** Runs of drawn calls, 512 each, on the class and on the Model: all answers are the same. */
public final class ModelTest {
    private static final int RUNS = 300;
    private static final int CALLS = 512;
    private static final String[] KINDS = {"plain", "sunday", "wet", "feast"};
    private static final String[] NAMES = {"a", "b", "c", "d", "e", "f", "g", "h", "much", "old", "abcdefgh", "z"};
    private static final String[] JUNK = {"day", "thief", "pays", "night", "steal", "sell", "spend", "swap", "a", "b", "s",
        "t", "zz", "worth", "guard", "skill", "sack", "0", "1", "9", "10", "25", "12345", "abcdefghi", "(", ")", "not", "and",
        "or", "<", "=", "+", "-", "*", ";", "$", "A", "\n", " ", "plain", "wet", "", "much", "date"};

    private final Random random;
    private StolenHolidays x;
    private Model m;
    private int left;

    private ModelTest(long seed) {
        random = new Random(seed);
    }

    public static void main(String[] args) {
        for (int run = 0; run < RUNS; run++) {
            new ModelTest(run).run();
        }
        Check.end();
    }

    private void run() {
        x = new StolenHolidays();
        m = new Model();
        left = CALLS;
        tellAlmanac();
        // What one turn may take at the most is kept: no call comes behind the 512th.
        while (left > 90) {
            int choice = random.nextInt(100);
            if (choice < 2) {
                tellAlmanac();
            } else if (choice < 5) {
                tellYear();
            } else if (choice < 50) {
                doSome();
            } else {
                askSome();
            }
        }
    }

    private int below(int n) {
        return random.nextInt(n);
    }

    private void same(String call, long got, long want) {
        left--;
        Check.due(call, got, want);
    }

    private void same(String call, boolean got, boolean want) {
        left--;
        Check.due(call, got, want);
    }

    private void tell(String text) {
        for (int from = 0; from < text.length(); from += 24) {
            long a = Check.packed(text, from);
            long b = Check.packed(text, from + 8);
            long c = Check.packed(text, from + 16);
            same("feed", x.feed(a, b, c), m.feed(a, b, c));
        }
    }

    private String spoiled(String text) {
        StringBuilder spoiled = new StringBuilder(text);
        for (int i = below(3); i >= 0; i--) {
            int place = below(spoiled.length() + 1);
            String junk = JUNK[below(JUNK.length)];
            if (below(3) > 0) {
                spoiled.delete(place, Math.min(spoiled.length(), place + below(6)));
            }
            spoiled.insert(place, below(2) == 0 ? junk : " " + junk + " ");
        }
        return spoiled.toString();
    }

    private void tellAlmanac() {
        StringBuilder text = new StringBuilder();
        int days = below(12) == 0 ? below(10) : 1 + below(8);
        int thieves = below(12) == 0 ? below(6) : 1 + below(4);
        for (int d = 0; d < days; d++) {
            text.append("day ").append(NAMES[d]).append(' ').append(KINDS[below(4)]).append(" worth ").append(1 + below(24))
                    .append("guard ").append(below(10)).append(below(2) == 0 ? ";" : " ;\n");
        }
        for (int t = 0; t < thieves; t++) {
            text.append("thief ").append((char) ('s' + t)).append(" skill ").append(below(10)).append(" sack ")
                    .append(1 + below(12)).append(';');
        }
        if (below(4) > 0) {
            text.append("pays ").append(law(0)).append(';');
        }
        String whole = text.toString();
        if (below(3) == 0) {
            String wrong = spoiled(whole);
            tell(wrong);
            same("almanac of " + wrong, x.almanac(), m.almanac());
        }
        tell(whole);
        same("almanac of " + whole, x.almanac(), m.almanac());
    }

    private String law(int depth) {
        StringBuilder law = new StringBuilder(lawPart(depth));
        String[] joins = {"+", "-", "*", "<", "=", " and ", " or "};
        for (int i = below(4); i > 0; i--) {
            law.append(joins[below(joins.length)]).append(lawPart(depth));
        }
        return law.toString();
    }

    private String lawPart(int depth) {
        String[] facts = {"much", "old", "sort", "date"};
        int choice = below(10);
        if (choice < 2 && depth < 6) {
            return "(" + law(depth + 1) + ")";
        }
        if (choice < 3 && depth < 6) {
            return "not " + lawPart(depth + 1);
        }
        return choice < 6 ? Integer.toString(below(below(2) == 0 ? 10 : 10000)) : facts[below(4)];
    }

    private void tellYear() {
        StringBuilder text = new StringBuilder();
        for (int i = below(below(8) == 0 ? 45 : 20); i > 0; i--) {
            char thief = (char) ('s' + below(below(6) == 0 ? 5 : Math.max(1, m.count(1))));
            char other = (char) ('s' + below(below(6) == 0 ? 5 : Math.max(1, m.count(1))));
            if (below(8) != 0 && other == thief) {
                other = thief == 's' ? 't' : 's';
            }
            String day = NAMES[below(Math.max(1, m.count(0)))];
            String[] lines = {"night;", "steal " + thief + " " + day + ";", "sell " + thief + ";", "spend " + thief + ";",
                "swap " + thief + " " + other + ";", "steal " + thief + " " + day + ";"};
            text.append(lines[below(10) == 0 ? 4 : below(2) == 0 ? 1 : below(4)]);
        }
        String whole = below(4) == 0 ? spoiled(text.toString()) : text.toString();
        tell(whole);
        same("year of " + whole, x.year(), m.year());
        for (int what = -1; what < 4; what++) {
            same("judged " + what, x.judged(what), m.judged(what));
        }
    }

    /** Mostly a number that there is. */
    private int some(int count) {
        int[] odd = {-1, -2, count, Integer.MIN_VALUE, Integer.MAX_VALUE};
        return count == 0 || below(25) == 0 ? odd[below(odd.length)] : below(count);
    }

    private void doSome() {
        int t = some(m.count(1));
        int u = some(m.count(1));
        int d = some(m.count(0));
        int mark = some(4);
        boolean back = below(2) == 0;
        switch (below(14)) {
            case 0:
            case 1:
            case 2:
            case 3:
            case 4:
                same("steal " + t + ", " + d, x.steal(t, d), m.steal(t, d));
                break;
            case 5:
                same("sell " + t, x.sell(t), m.sell(t));
                break;
            case 6:
                same("spend " + t, x.spend(t), m.spend(t));
                break;
            case 7:
                same("swap " + t + ", " + u, x.swap(t, u), m.swap(t, u));
                break;
            case 8:
                if (below(4) == 0) {
                    same("mark " + mark + ", " + back, x.mark(mark, back), m.mark(mark, back));
                }
                break;
            case 9:
                same("undo", x.undo(), m.undo());
                break;
            case 10:
                if (below(4) == 0) {
                    int n = some(31);
                    same("see " + d + ", " + n + ", " + back, x.see(d, n, back), m.see(d, n, back));
                }
                break;
            default:
                same("night", x.night(), m.night());
        }
    }

    private void askSome() {
        int t = some(m.count(1));
        int d = some(m.count(0));
        int n = some(61);
        int what = some(2);
        switch (below(12)) {
            case 0:
                int ofDay = some(5);
                same("day " + d + ", " + ofDay, x.day(d, ofDay), m.day(d, ofDay));
                int ofThief = some(9);
                same("thief " + t + ", " + ofThief, x.thief(t, ofThief), m.thief(t, ofThief));
                break;
            case 1:
                int counted = some(12);
                same("count " + counted, x.count(counted), m.count(counted));
                break;
            case 2:
                same("can " + t, x.can(t), m.can(t));
                same("haul " + t + ", " + d, x.haul(t, d), m.haul(t, d));
                same("price " + t, x.price(t), m.price(t));
                break;
            case 3:
                same("all", x.all(), m.all());
                same("rich", x.rich(), m.rich());
                same("guilty", x.guilty(), m.guilty());
                break;
            case 4:
                same("later " + d + ", " + n, x.later(d, n), m.later(d, n));
                same("guards " + d + ", " + n, x.guards(d, n), m.guards(d, n));
                same("slack " + n, x.slack(n), m.slack(n));
                break;
            case 5:
                same("keeps " + t + ", " + n, x.keeps(t, n), m.keeps(t, n));
                same("freed " + t, x.freed(t), m.freed(t));
                break;
            case 6:
                same("opens " + t + ", " + d, x.opens(t, d), m.opens(t, d));
                same("whole", x.whole(), m.whole());
                break;
            case 7:
                same("waits " + t + ", " + what, x.waits(t, what), m.waits(t, what));
                same("glads " + t + ", " + what, x.glads(t, what), m.glads(t, what));
                break;
            case 8:
                int gang = below(3) == 0 ? -1 : t;
                same("gang " + gang, x.gang(gang), m.gang(gang));
                same("cover", x.cover(), m.cover());
                same("watch", x.watch(), m.watch());
                break;
            case 9:
                int nights = below(12) == 0 ? 5 : some(5);
                same("spree " + t + ", " + nights + ", " + what, x.spree(t, nights, what), m.spree(t, nights, what));
                break;
            case 10:
                same("who", x.who(), m.who());
                same("ask", x.ask(), m.ask());
                break;
            default:
                askOdds(t, d);
        }
    }

    private void askOdds(int t, int d) {
        int nights = some(7);
        int odds = some(11);
        same("chance " + t + ", " + d + ", " + nights + ", " + odds, x.chance(t, d, nights, odds),
                m.chance(t, d, nights, odds));
        int seed = some(10000);
        int long1 = some(100);
        int what = some(3);
        same("years " + seed + ", " + long1 + ", " + what, x.years(seed, long1, what), m.years(seed, long1, what));
        int lose = below(2) == 0 ? 0 : some(10);
        int tells = below(2) == 0 ? 0 : some(10);
        int not = below(2) == 0 ? 0 : some(10);
        int rest = below(5) - 1;
        same("rests " + lose + ", " + tells + ", " + not + ", " + rest, Check.rests(x, lose, tells, not, rest),
                modelRests(lose, tells, not, rest));
    }

    private long modelRests(int lose, int tells, int not, int what) {
        try {
            return m.rests(lose, tells, not, what);
        } catch (NoSuchElementException e) {
            return Check.THROWN;
        }
    }
}
