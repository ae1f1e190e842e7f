import java.util.NoSuchElementException;

/** What the tests share: feeding texts, comparing answers, ending with 1 if one was wrong. */
final class Check {
    static final long THROWN = Long.MIN_VALUE;

    private static int compared = 0;
    private static int wrong = 0;

    private Check() {
    }

    static void due(String call, long got, long want) {
        compared++;
        if (got != want) {
            wrong++;
            System.out.println(call + " answered " + got + ", due is " + want);
        }
    }

    static void due(String call, boolean got, boolean want) {
        due(call, got ? 1 : 0, want ? 1 : 0);
    }

    /** Feeds a text of any length, by 24 signs; what is left over of a call is filled with bytes that are left out. */
    static void feed(StolenHolidays x, String text) {
        for (int from = 0; from < text.length(); from += 24) {
            x.feed(packed(text, from), packed(text, from + 8), packed(text, from + 16));
        }
    }

    static long packed(String text, int from) {
        long bytes = 0;
        for (int i = from; i < from + 8; i++) {
            bytes = bytes << 8 | (i < text.length() ? text.charAt(i) & 255 : 0);
        }
        return bytes;
    }

    static StolenHolidays told(String almanac) {
        StolenHolidays x = new StolenHolidays();
        due("almanac of " + almanac, readAlmanac(x, almanac), 0);
        return x;
    }

    static int readAlmanac(StolenHolidays x, String text) {
        feed(x, text);
        return x.almanac();
    }

    static int readYear(StolenHolidays x, String text) {
        feed(x, text);
        return x.year();
    }

    static void nights(StolenHolidays x, int nights) {
        for (int n = 0; n < nights; n++) {
            x.night();
        }
    }

    static long rests(StolenHolidays x, int lose, int tells, int not, int what) {
        try {
            return x.rests(lose, tells, not, what);
        } catch (NoSuchElementException e) {
            return THROWN;
        }
    }

    static void end() {
        System.out.println(compared + " answers, " + wrong + " wrong");
        if (wrong != 0 || compared == 0) {
            System.exit(1);
        }
    }
}
