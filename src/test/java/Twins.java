/** Two objects to which the same was done, but for calls by which all must stay: whatever is asked of them, they are alike. */
final class Twins {
    /** DAYS 0 to 2, THIEVES 0 to 2. */
    static final String BOOK = "day mon plain worth 6 guard 2;day sun sunday worth 8 guard 5;day whit wet worth 9 guard 1;"
            + "thief al skill 5 sack 4;thief bo skill 2 sack 7;thief cy skill 9 sack 12;pays much*3-old+date;";
    static final String YEAR = "steal al sun;night;spend al;sell bo;steal bo sun;";

    interface Doing {
        void on(StolenHolidays x);
    }

    private Twins() {
    }

    /** al has a PIECE and guilt, bo is CAUGHT, cy has coins and JOY; MARKS 0 and 2 are laid; seven things can be undone. */
    static StolenHolidays lived() {
        StolenHolidays x = new StolenHolidays();
        Check.readAlmanac(x, BOOK);
        x.see(1, 0, true);
        x.mark(0, false);
        Check.readYear(x, YEAR);
        x.steal(2, 2);
        x.sell(2);
        x.steal(2, 0);
        x.spend(2);
        x.steal(0, 1);
        x.mark(2, false);
        x.see(1, 3, false);
        x.steal(1, 1);
        x.night();
        return x;
    }

    /** A call that is refused, or asks only: all stays, what can be undone and what the MARKS hold, too. */
    static void leavesAll(String call, Doing doing) {
        StolenHolidays x = lived();
        doing.on(x);
        alikeInAll(call, x, lived());
    }

    /** Uses both up. */
    static void alikeInAll(String call, StolenHolidays x, StolenHolidays y) {
        alike(call, x, y);
        for (int i = 0; i < 3; i++) {
            Check.due(call + ", undone", x.undo(), y.undo());
            alike(call + ", undone", x, y);
        }
        int lines = Check.readYear(y, "sell cy;steal al whit;");
        Check.due(call + ", names", Check.readYear(x, "sell cy;steal al whit;"), lines);
        for (int mark = 3; mark >= 0; mark--) {
            boolean back = y.mark(mark, true);
            Check.due(call + ", back to " + mark, x.mark(mark, true), back);
            if (back) {
                alike(call + ", back to " + mark, x, y);
            }
        }
    }

    static void alike(String call, StolenHolidays x, StolenHolidays y) {
        for (int what = 0; what <= 11; what++) {
            Check.due(call + ": count " + what, x.count(what), y.count(what));
        }
        for (int i = 0; i < 3; i++) {
            for (int what = 1; what <= 4; what++) {
                Check.due(call + ": day " + i + ", " + what, x.day(i, what), y.day(i, what));
            }
            for (int what = 0; what <= 8; what++) {
                Check.due(call + ": thief " + i + ", " + what, x.thief(i, what), y.thief(i, what));
            }
            Check.due(call + ": price " + i, x.price(i), y.price(i));
            Check.due(call + ": judged " + i, x.judged(i), y.judged(i));
        }
        Check.due(call + ": who", x.who(), y.who());
    }
}
