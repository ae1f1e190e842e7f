/** Promises 39 and 40: mark, count. */
public final class MarkTest {
    private static final String BOOK = "day mon plain worth 6 guard 2;day sun sunday worth 8 guard 5;"
            + "day whit wet worth 9 guard 1;thief al skill 5 sack 4;thief bo skill 2 sack 7;thief cy skill 9 sack 12;";

    public static void main(String[] args) {
        wrongMarks();
        marks();
        marksAgain();
        marksAndUndo();
        counts();
        Check.end();
    }

    private static void wrongMarks() {
        StolenHolidays x = Check.told(BOOK);
        int[] wrong = {-1, 4, Integer.MIN_VALUE, Integer.MAX_VALUE};
        for (int n : wrong) {
            Check.due("lay " + n, x.mark(n, false), false);
            Check.due("back to " + n, x.mark(n, true), false);
        }
        for (int m = 0; m < 4; m++) {
            Check.due("nothing on " + m, x.mark(m, true), false);
        }
        x.night();
        Check.due("nothing on it", x.mark(2, true), false);
        Check.due("all stays", x.count(2), 1);
        Check.due("to undo", x.count(10), 1);
    }

    private static void marks() {
        StolenHolidays x = Check.told(BOOK);
        Check.due("lay 0", x.mark(0, false), true);
        x.steal(0, 1);
        x.night();
        Check.readYear(x, "night;night;");
        x.see(1, 3, true);
        Check.feed(x, "day");
        Check.due("lay 3", x.mark(3, false), true);
        x.spend(0);
        x.steal(1, 1);
        x.night();
        x.see(2, 3, false);
        Check.readYear(x, "night;");
        Check.feed(x, "night;");
        Check.due("back to 3", x.mark(3, true), true);
        Check.due("night", x.count(2), 1);
        Check.due("left", x.day(1, 2), 5);
        Check.due("guard", x.day(1, 3), 6);
        Check.due("piece", x.thief(0, 2), 4);
        Check.due("old", x.thief(0, 4), 1);
        Check.due("guilt", x.thief(0, 6), 1);
        Check.due("joy", x.count(7), 0);
        Check.due("caught", x.count(4), 0);
        Check.due("lines", x.count(8), 2);
        Check.due("seen", x.count(9), 1);
        Check.due("the tape stays", x.count(11), 6);
        Check.due("nothing to undo", x.count(10), 0);
        Check.due("undo", x.undo(), false);
        Check.due("back to 0", x.mark(0, true), true);
        Check.due("night", x.count(2), 0);
        Check.due("left", x.count(3), 23);
        Check.due("lines", x.count(8), 0);
        Check.due("seen", x.count(9), 0);
        Check.due("who", x.who(), 7);
    }

    private static void marksAgain() {
        StolenHolidays x = Check.told(BOOK);
        x.mark(1, false);
        x.steal(2, 2);
        x.mark(1, true);
        Check.due("back", x.all(), 0);
        x.steal(2, 1);
        Check.due("back again", x.mark(1, true), true);
        Check.due("nothing", x.all(), 0);
        x.steal(2, 0);
        x.mark(1, false);
        x.night();
        x.mark(1, true);
        Check.due("another is on it", x.all(), 6);
        Check.due("of that night", x.count(2), 0);
        Check.readYear(x, "steal cy mon;spend cy;");
        x.mark(2, false);
        Check.readYear(x, "night;");
        x.mark(2, true);
        Check.due("the lines themselves", x.judged(2), 6);
        x.see(1, 0, true);
        x.mark(2, false);
        x.mark(1, true);
        x.see(1, 0, false);
        Check.due("bo", x.who(), 2);
        x.mark(2, true);
        Check.due("al and cy", x.who(), 5);
        x = Check.told(BOOK);
        x.see(0, 30, true);
        x.see(1, 2, true);
        x.mark(0, false);
        Check.readAlmanac(x, "nothing;");
        x.mark(1, true);
        x.steal(0, 1);
        x.mark(2, false);
        x.mark(0, true);
        Check.due("who by both", x.who(), 5);
        x.mark(2, true);
        Check.due("sun is open to al behind two nights again", x.who(), 5);
        x.see(1, 1, true);
        x.mark(3, false);
        x.mark(0, true);
        x.mark(3, true);
        Check.due("but not behind one", x.who(), 4);
    }

    private static void marksAndUndo() {
        StolenHolidays x = Check.told(BOOK);
        x.night();
        x.mark(0, false);
        Check.due("laying leaves what can be undone", x.count(10), 1);
        Check.due("undone", x.undo(), true);
        Check.due("mark stays", x.mark(0, true), true);
        Check.due("night", x.count(2), 1);
        x.night();
        Check.due("one", x.count(10), 1);
        x.undo();
        Check.due("back", x.count(2), 1);
        Check.due("not beyond", x.undo(), false);
    }

    private static void counts() {
        StolenHolidays x = Check.told(BOOK + "pays 9;");
        x.steal(0, 0);
        x.sell(0);
        x.steal(1, 1);
        x.steal(2, 1);
        x.night();
        x.spend(2);
        x.steal(2, 2);
        x.steal(0, 0);
        x.spend(0);
        x.steal(0, 2);
        Check.readYear(x, "night;night;night;");
        x.see(0, 0, true);
        x.see(0, 1, true);
        Check.feed(x, "abcde");
        // mon 6 - 4 + 1 - 3; sun 8 - 8 + 1; whit 9 - 9; al of nothing can't be.
        int[] want = {3, 3, 1, 1, 2, 4, 9, 7 + 3, 3, 2, 9, 5};
        for (int what = 0; what < want.length; what++) {
            Check.due("count " + what, x.count(what), want[what]);
        }
        int[] wrong = {-1, 12, Integer.MIN_VALUE, Integer.MAX_VALUE};
        for (int n : wrong) {
            Check.due("count " + n, x.count(n), -1);
        }
    }
}
