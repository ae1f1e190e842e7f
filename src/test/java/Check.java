import java.io.IOException;
import java.nio.charset.StandardCharsets;
import java.nio.file.Files;
import java.nio.file.Path;
import java.util.HashSet;
import java.util.NoSuchElementException;
import java.util.Set;

/** What the tests share: feeding texts, comparing answers, ending with 1 if one was wrong. */
final class Check {
    static final long THROWN = Long.MIN_VALUE;
    static final int PROMISES = 40;
    /** The numbers that no argument can be. */
    static final int[] WILD = {Integer.MIN_VALUE, Integer.MIN_VALUE + 1, -1000000, Integer.MAX_VALUE - 1, Integer.MAX_VALUE};

    private static final String DOC = doc();
    private static final Set<String> SENTENCES = new HashSet<>();
    private static final boolean[] NAMED = new boolean[PROMISES + 1];

    private static int compared = 0;
    private static int wrong = 0;
    private static int before = 0;
    private static String sentence = "";

    private Check() {
    }

    /** Empty where the document does not lie beside the project: then quotes are not looked up. */
    private static String doc() {
        Path path = Path.of("..", "shared", "DOC.md");
        try {
            return Files.isReadable(path) ? Files.readString(path, StandardCharsets.UTF_8) : "";
        } catch (IOException e) {
            return "";
        }
    }

    /** What is compared from now on is this sentence of the document, by which the promise holds. */
    static void sentence(int promise, String words) {
        endSentence();
        sentence = "promise " + promise + ", \"" + words + "\": ";
        before = compared;
        SENTENCES.add(sentence);
        NAMED[promise] = true;
        if (!DOC.isEmpty() && !DOC.contains(words)) {
            wrong++;
            System.out.println(sentence + "these words do not stand in the document");
        }
    }

    private static void endSentence() {
        if (!sentence.isEmpty() && compared == before) {
            wrong++;
            System.out.println(sentence + "nothing was compared");
        }
        sentence = "";
    }

    /** Each promise has a sentence that was tested. */
    static void allPromises() {
        endSentence();
        for (int promise = 1; promise <= PROMISES; promise++) {
            due("promise " + promise + " has a sentence of its own", NAMED[promise], true);
        }
        System.out.println(SENTENCES.size() + " sentences");
    }

    static void due(String call, long got, long want) {
        compared++;
        if (got != want) {
            wrong++;
            System.out.println(sentence + call + " answered " + got + ", due is " + want);
        }
    }

    static void due(String call, boolean got, boolean want) {
        due(call, got ? 1 : 0, want ? 1 : 0);
    }

    /** Feeds a text of any length, by 24 signs; what is left over of a call is filled with bytes that are left out. */
    static void feed(StolenHolidays x, String text) {
        for (int from = 0; from < text.length(); from += 24) {
            x.feed(packed(text, from), packed(text, from + 8), packed(text, from + 16));
        }
    }

    static long packed(String text, int from) {
        long bytes = 0;
        for (int i = from; i < from + 8; i++) {
            bytes = bytes << 8 | (i < text.length() ? text.charAt(i) & 255 : 0);
        }
        return bytes;
    }

    static StolenHolidays told(String almanac) {
        StolenHolidays x = new StolenHolidays();
        due("almanac of " + almanac, readAlmanac(x, almanac), 0);
        return x;
    }

    static int readAlmanac(StolenHolidays x, String text) {
        feed(x, text);
        return x.almanac();
    }

    static int readYear(StolenHolidays x, String text) {
        feed(x, text);
        return x.year();
    }

    static void nights(StolenHolidays x, int nights) {
        for (int n = 0; n < nights; n++) {
            x.night();
        }
    }

    static long rests(StolenHolidays x, int lose, int tells, int not, int what) {
        try {
            return x.rests(lose, tells, not, what);
        } catch (NoSuchElementException e) {
            return THROWN;
        }
    }

    static void end() {
        endSentence();
        System.out.println(compared + " answers, " + wrong + " wrong");
        if (wrong != 0 || compared == 0) {
            System.exit(1);
        }
    }
}
