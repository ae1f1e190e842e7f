import java.io.File;
import java.io.IOException;
import java.lang.reflect.Method;
import java.lang.reflect.Modifier;
import java.nio.file.Files;
import java.nio.file.Path;
import java.util.regex.Matcher;
import java.util.regex.Pattern;

/** README.md holds: its example answers as it says, and it names every call of the face and every test. */
public final class ReadmeTest {
    private static final Pattern FED = Pattern.compile("// feed \"(.*)\"");
    private static final Pattern CALL = Pattern.compile("x\\.(\\w+)\\((.*)\\); +// (-?\\d+|true|false)\\b.*");

    public static void main(String[] args) throws IOException, ReflectiveOperationException {
        String page = Files.readString(Path.of("README.md"));
        example(page);
        for (Method method : StolenHolidays.class.getDeclaredMethods()) {
            if (Modifier.isPublic(method.getModifiers())) {
                Check.due("it tells " + method.getName(), page.contains("`" + method.getName() + "("), true);
            }
        }
        for (File file : new File("src/test/java").listFiles()) {
            if (file.getName().endsWith("Test.java")) {
                String name = file.getName().substring(0, file.getName().length() - ".java".length());
                Check.due("it tells " + name, page.contains("| `" + name + "` |"), true);
            }
        }
        Check.end();
    }

    private static void example(String page) throws ReflectiveOperationException {
        StolenHolidays x = new StolenHolidays();
        int calls = 0;
        for (String line : page.split("\n")) {
            Matcher fed = FED.matcher(line);
            if (fed.matches()) {
                Check.feed(x, fed.group(1));
            }
            Matcher call = CALL.matcher(line);
            if (call.matches()) {
                calls++;
                Check.due(line, answered(x, call.group(1), call.group(2)).equals(call.group(3)), true);
            }
        }
        Check.due("the example has its calls", calls >= 17, true);
    }

    private static String answered(StolenHolidays x, String name, String arguments) throws ReflectiveOperationException {
        for (Method method : StolenHolidays.class.getMethods()) {
            if (method.getName().equals(name)) {
                String[] told = arguments.isEmpty() ? new String[0] : arguments.split(", ");
                Object[] numbers = new Object[told.length];
                for (int i = 0; i < told.length; i++) {
                    numbers[i] = Integer.valueOf(told[i]);
                }
                return String.valueOf(method.invoke(x, numbers));
            }
        }
        return "no such call";
    }
}
