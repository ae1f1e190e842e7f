import java.io.IOException;
import java.lang.reflect.Constructor;
import java.lang.reflect.Field;
import java.lang.reflect.Method;
import java.lang.reflect.Modifier;
import java.nio.file.Files;
import java.nio.file.Path;
import java.util.List;
import java.util.Map;
import java.util.Set;
import java.util.TreeMap;
import java.util.TreeSet;
import java.util.regex.Matcher;
import java.util.regex.Pattern;

/** The public face of the document, and what of LANGUAGE.md can be seen from outside or by plain words of the source. */
public final class FaceTest {
    private static final String[] FACE = {
        "int feed(long,long,long)", "int almanac()", "int year()", "int day(int,int)", "int thief(int,int)",
        "int steal(int,int)", "int sell(int)", "int spend(int)", "boolean swap(int,int)", "int night()", "boolean undo()",
        "int judged(int)", "int can(int)", "int haul(int,int)", "int price(int)", "int all()", "int rich()", "int guilty()",
        "int later(int,int)", "int guards(int,int)", "int keeps(int,int)", "int freed(int)", "int opens(int,int)",
        "int whole()", "int waits(int,int)", "int glads(int,int)", "int slack(int)", "int gang(int)", "int cover()",
        "int watch()", "int spree(int,int,int)", "boolean see(int,int,boolean)", "int who()", "int ask()",
        "int chance(int,int,int,int)", "int rests(int,int,int,int) throws NoSuchElementException", "int years(int,int,int)",
        "boolean mark(int,boolean)", "int count(int)"};
    private static final String[] NOT_USED = {"->", "::", "catch", "finally", "synchronized", "assert", "Integer.MAX", "Integer.MIN",
        "float ", "double ", "new Thread", "System.out", "System.nano", "System.current", "Random", ".equals(", "hashCode",
        "toString"};

    public static void main(String[] args) throws IOException {
        methods();
        constantsAndConstructor();
        classesInside();
        List<String> lines = Files.readAllLines(Path.of("src", "main", "java", "StolenHolidays.java"));
        source(lines);
        callsGoEightDeep(bodies(lines));
        Check.end();
    }

    private static String told(Method method) {
        StringBuilder text = new StringBuilder(method.getReturnType().getName()).append(' ').append(method.getName()).append('(');
        for (Class<?> type : method.getParameterTypes()) {
            text.append(text.charAt(text.length() - 1) == '(' ? "" : ",").append(type.getName());
        }
        text.append(')');
        for (Class<?> type : method.getExceptionTypes()) {
            text.append(" throws ").append(type.getSimpleName());
        }
        return text.toString();
    }

    private static void methods() {
        Set<String> left = new TreeSet<>(Set.of(FACE));
        Set<String> names = new TreeSet<>();
        for (Method method : StolenHolidays.class.getDeclaredMethods()) {
            if (!Modifier.isPrivate(method.getModifiers())) {
                Check.due("public: " + method, Modifier.isPublic(method.getModifiers()), true);
                Check.due("of the face: " + told(method), left.remove(told(method)), true);
                Check.due("of an object: " + method, Modifier.isStatic(method.getModifiers()), false);
                names.add(method.getName());
            }
        }
        Check.due("methods that are not there: " + left, left.size(), 0);
        for (Method method : StolenHolidays.class.getDeclaredMethods()) {
            if (Modifier.isPrivate(method.getModifiers())) {
                Check.due("a private name of its own: " + method, names.contains(method.getName()), false);
            }
        }
    }

    private static void constantsAndConstructor() {
        int open = 0;
        for (Field field : StolenHolidays.class.getDeclaredFields()) {
            open += Modifier.isPrivate(field.getModifiers()) ? 0 : 1;
        }
        Check.due("NONE alone is no private field", open, 1);
        Check.due("NONE", StolenHolidays.NONE, -1);
        Constructor<?>[] constructors = StolenHolidays.class.getDeclaredConstructors();
        Check.due("constructors", constructors.length, 1);
        Check.due("it is public", Modifier.isPublic(constructors[0].getModifiers()), true);
        Check.due("it takes nothing", constructors[0].getParameterCount(), 0);
        int modifiers = StolenHolidays.class.getModifiers();
        Check.due("public and final", Modifier.isPublic(modifiers) && Modifier.isFinal(modifiers), true);
    }

    private static void classesInside() {
        Class<?>[] inside = StolenHolidays.class.getDeclaredClasses();
        Check.due("some twelve classes", inside.length + 1 <= 12, true);
        for (Class<?> one : inside) {
            Check.due("static: " + one, Modifier.isStatic(one.getModifiers()), true);
            int fields = 0;
            for (Field field : one.getDeclaredFields()) {
                boolean isConstant = Modifier.isStatic(field.getModifiers());
                Check.due("static fields are final: " + field, !isConstant || Modifier.isFinal(field.getModifiers()), true);
                fields += isConstant ? 0 : 1;
            }
            Check.due("some twenty fields: " + one, fields <= 20, true);
            for (Method method : one.getDeclaredMethods()) {
                Check.due("seven parameters at most: " + method, method.getParameterCount() <= 7, true);
            }
        }
    }

    private static void source(List<String> lines) {
        int from = 0;
        for (int i = 0; i < lines.size(); i++) {
            String line = lines.get(i);
            for (String word : NOT_USED) {
                Check.due("line " + (i + 1) + " has no " + word, line.contains(word), false);
            }
            Check.due("line " + (i + 1) + " imports nothing else",
                    line.startsWith("import") && !line.equals("import java.util.NoSuchElementException;"), false);
            if (line.matches(" {4,8}[\\w<>\\[\\] ]+\\(.*") && !line.endsWith(";")) {
                from = i;
            } else if (line.matches(" {4,8}\\}")) {
                Check.due("line " + (i + 1) + " ends a method of some sixty lines", i - from <= 60, true);
                from = i;
            }
        }
    }

    /** What is written in the methods, by their names: those of one name in several classes together. */
    private static Map<String, String> bodies(List<String> lines) {
        Pattern head = Pattern.compile("( {4}| {8})(?!return |else )(?:[\\w\\[\\]]+ )+(\\w+)\\([^;]*\\{");
        Map<String, String> bodies = new TreeMap<>();
        for (int i = 0; i < lines.size(); i++) {
            Matcher matcher = head.matcher(lines.get(i));
            if (matcher.matches()) {
                StringBuilder body = new StringBuilder(bodies.getOrDefault(matcher.group(2), ""));
                for (i++; !lines.get(i).equals(matcher.group(1) + "}"); i++) {
                    body.append(lines.get(i)).append('\n');
                }
                bodies.put(matcher.group(2), body.toString());
            }
        }
        return bodies;
    }

    private static void callsGoEightDeep(Map<String, String> bodies) {
        Map<String, Set<String>> calls = new TreeMap<>();
        for (Map.Entry<String, String> entry : bodies.entrySet()) {
            Set<String> called = new TreeSet<>();
            Matcher matcher = Pattern.compile("(\\w+)\\(").matcher(entry.getValue());
            while (matcher.find()) {
                if (bodies.containsKey(matcher.group(1))) {
                    called.add(matcher.group(1));
                }
            }
            calls.put(entry.getKey(), called);
        }
        Check.due("methods are found", calls.size() >= FACE.length && calls.get("almanac").contains("readAlmanac"), true);
        for (String name : calls.keySet()) {
            int deep = deepest(name, calls, new TreeSet<>());
            Check.due("calls from " + name + " go eight deep at most, not " + deep, deep <= 8, true);
        }
    }

    /** A method that stands open already is not counted again: that is recursion. */
    private static int deepest(String name, Map<String, Set<String>> calls, Set<String> open) {
        int most = 0;
        open.add(name);
        for (String called : calls.get(name)) {
            if (!open.contains(called)) {
                most = Math.max(most, deepest(called, calls, open));
            }
        }
        open.remove(name);
        return most + 1;
    }
}
