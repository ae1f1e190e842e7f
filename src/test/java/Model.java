import java.util.ArrayList;
import java.util.HashMap;
import java.util.List;
import java.util.Map;
import java.util.NoSuchElementException;
import java.util.Set;
import java.util.regex.Matcher;
import java.util.regex.Pattern;

/** The document once more, in another way: each question is answered by doing, night for night, all that it tells. */
final class Model {
    private static final List<String> KINDS = List.of("plain", "sunday", "wet", "feast");
    private static final Set<String> RESERVED = Set.of("day", "worth", "guard", "thief", "skill", "sack", "pays", "night",
            "steal", "sell", "spend", "swap", "plain", "sunday", "wet", "feast", "not", "and", "or");
    private static final Pattern TOKEN = Pattern.compile("[a-z]+|[0-9]+|[^ \n]");

    record Token(String text, int place) {
        boolean isWord() {
            return text.matches("[a-z]{1,8}");
        }

        boolean isNumber() {
            return text.matches("[0-9]{1,4}");
        }

        boolean isName() {
            return isWord() && !RESERVED.contains(text);
        }
    }

    private static final class Fault extends RuntimeException {
        private static final long serialVersionUID = 1;
        final int code;

        Fault(int kind, Token token) {
            code = kind + 16 * token.place;
        }
    }

    interface Law {
        int of(int much, int old, int sort, int date);
    }

    record DayTold(String name, int kind, int worth, int guard) {
    }

    record ThiefTold(String name, int skill, int sack) {
    }

    record Line(String doing, int first, int second) {
    }

    record Clue(int day, int nights, boolean open) {
    }

    static final class Thief {
        int much;
        int kind;
        int old;
        int caught;
        int guilt;
        int coins;
        int joy;

        Thief twin() {
            Thief t = new Thief();
            t.much = much;
            t.kind = kind;
            t.old = old;
            t.caught = caught;
            t.guilt = guilt;
            t.coins = coins;
            t.joy = joy;
            return t;
        }
    }

    /** How it is, and what can be done. */
    final class World {
        int night;
        int[] left = new int[days.size()];
        int[] guard = new int[days.size()];
        Thief[] crew = new Thief[thieves.size()];

        World() {
            for (int d = 0; d < left.length; d++) {
                left[d] = days.get(d).worth;
                guard[d] = days.get(d).guard;
            }
            for (int t = 0; t < crew.length; t++) {
                crew[t] = new Thief();
            }
        }

        World twin() {
            World w = new World();
            w.night = night;
            w.left = left.clone();
            w.guard = guard.clone();
            for (int t = 0; t < crew.length; t++) {
                w.crew[t] = crew[t].twin();
            }
            return w;
        }

        World behind(int nights) {
            World w = twin();
            for (int n = 0; n < nights; n++) {
                w.pass();
            }
            return w;
        }

        boolean free(int t) {
            return crew[t].caught == 0;
        }

        boolean ready(int t) {
            return free(t) && crew[t].much == 0;
        }

        boolean open(int t, int d) {
            return left[d] > 0 && thieves.get(t).skill >= guard[d];
        }

        int steal(int t, int d) {
            if (!ready(t) || left[d] == 0) {
                return -1;
            }
            if (!open(t, d)) {
                crew[t].caught = guard[d] - thieves.get(t).skill;
                guard[d] = Math.min(9, guard[d] + 1);
                return 0;
            }
            int much = Math.min(thieves.get(t).sack, left[d]);
            crew[t].much = much;
            crew[t].kind = days.get(d).kind;
            crew[t].old = 0;
            left[d] -= much;
            guard[d] = Math.min(9, guard[d] + 2);
            return much;
        }

        int price(int t) {
            if (crew[t].much == 0) {
                return -1;
            }
            return Math.min(99, Math.max(0, law.of(crew[t].much, crew[t].old, crew[t].kind, night)));
        }

        int sell(int t) {
            if (!free(t) || crew[t].much == 0) {
                return -1;
            }
            int paid = price(t);
            crew[t].coins += paid;
            crew[t].much = 0;
            return paid;
        }

        int spend(int t) {
            if (!free(t) || crew[t].much == 0) {
                return -1;
            }
            int joy = Math.max(0, crew[t].much - crew[t].guilt);
            crew[t].joy += joy;
            crew[t].guilt = 0;
            crew[t].much = 0;
            return joy;
        }

        boolean swap(int t, int u) {
            if (t == u || !free(t) || !free(u) || crew[t].much == 0 || crew[u].much == 0) {
                return false;
            }
            Thief a = crew[t].twin();
            Thief b = crew[u];
            crew[t].much = b.much;
            crew[t].kind = b.kind;
            crew[t].old = b.old;
            b.much = a.much;
            b.kind = a.kind;
            b.old = a.old;
            return true;
        }

        void pass() {
            for (Thief t : crew) {
                if (t.much > 0) {
                    t.old++;
                    if (t.kind == 0 && t.old > 3) {
                        t.much--;
                    } else if (t.kind == 1) {
                        t.guilt = Math.min(9, t.guilt + 1);
                    } else if (t.kind == 2) {
                        t.much /= 2;
                    } else if (t.kind == 3 && t.old >= 4) {
                        t.much = 0;
                    }
                }
                if (t.caught > 0) {
                    t.caught--;
                }
            }
            for (int d = 0; d < left.length; d++) {
                if (left[d] < days.get(d).worth) {
                    left[d]++;
                }
                if (guard[d] > days.get(d).guard) {
                    guard[d]--;
                }
            }
            night++;
        }

        int holders() {
            int bits = 0;
            for (int t = 0; t < crew.length; t++) {
                bits |= crew[t].much > 0 ? 1 << t : 0;
            }
            return bits;
        }

        int caughtOnes() {
            int bits = 0;
            for (int t = 0; t < crew.length; t++) {
                bits |= crew[t].caught > 0 ? 1 << t : 0;
            }
            return bits;
        }

        int coins() {
            int sum = 0;
            for (Thief t : crew) {
                sum += t.coins;
            }
            return sum;
        }

        int joy() {
            int sum = 0;
            for (Thief t : crew) {
                sum += t.joy;
            }
            return sum;
        }
    }

    private record Kept(World world, List<Line> year, List<Clue> clues) {
    }

    private final StringBuilder tape = new StringBuilder();
    private List<DayTold> days = new ArrayList<>();
    private List<ThiefTold> thieves = new ArrayList<>();
    private Law law = (much, old, sort, date) -> much;
    private List<Line> year = new ArrayList<>();
    private List<Clue> clues = new ArrayList<>();
    private World now = new World();
    private List<World> past = new ArrayList<>();
    private final Map<Integer, Kept> marks = new HashMap<>();

    // What a text is read from.
    private List<Token> tokens;
    private int at;

    int feed(long a, long b, long c) {
        for (long bytes : new long[] {a, b, c}) {
            for (byte sign : java.nio.ByteBuffer.allocate(8).putLong(bytes).array()) {
                if ((sign == 10 || sign >= 32 && sign <= 126) && tape.length() < 1000) {
                    tape.append((char) sign);
                }
            }
        }
        return tape.length();
    }

    private void cut() {
        tokens = new ArrayList<>();
        Matcher m = TOKEN.matcher(tape);
        while (m.find()) {
            tokens.add(new Token(m.group(), m.start()));
        }
        tokens.add(new Token("", tape.length()));
        tape.setLength(0);
        at = 0;
    }

    private Token here() {
        return tokens.get(at);
    }

    private boolean is(String text) {
        return here().text.equals(text);
    }

    private void need(String text) {
        if (!is(text)) {
            throw new Fault(1, here());
        }
        at++;
    }

    private int needNumber(int least, int most) {
        if (!here().isNumber()) {
            throw new Fault(1, here());
        }
        int number = Integer.parseInt(here().text);
        if (number < least || number > most) {
            throw new Fault(4, here());
        }
        at++;
        return number;
    }

    private String needName() {
        if (!here().isName()) {
            throw new Fault(1, here());
        }
        return here().text;
    }

    int almanac() {
        List<DayTold> newDays = new ArrayList<>();
        List<ThiefTold> newThieves = new ArrayList<>();
        List<Law> laws = new ArrayList<>();
        Set<String> names = new java.util.HashSet<>();
        cut();
        try {
            while (!is("")) {
                almanacLine(newDays, newThieves, laws, names);
            }
        } catch (Fault fault) {
            return fault.code;
        }
        days = newDays;
        thieves = newThieves;
        law = laws.isEmpty() ? (much, old, sort, date) -> much : laws.get(0);
        year = new ArrayList<>();
        clues = new ArrayList<>();
        past = new ArrayList<>();
        marks.clear();
        now = new World();
        return 0;
    }

    private void almanacLine(List<DayTold> newDays, List<ThiefTold> newThieves, List<Law> laws, Set<String> names) {
        if (is("day") && newDays.size() == 8 || is("thief") && newThieves.size() == 4) {
            throw new Fault(5, here());
        }
        if (is("pays") && !laws.isEmpty()) {
            throw new Fault(3, here());
        }
        if (is("pays")) {
            at++;
            laws.add(wholeLaw(0));
        } else if (is("day") || is("thief")) {
            boolean day = is("day");
            at++;
            String name = needName();
            if (!names.add(name)) {
                throw new Fault(3, here());
            }
            at++;
            if (day) {
                int kind = KINDS.indexOf(here().text);
                if (kind < 0) {
                    throw new Fault(1, here());
                }
                at++;
                need("worth");
                int worth = needNumber(1, 24);
                need("guard");
                newDays.add(new DayTold(name, kind, worth, needNumber(0, 9)));
            } else {
                need("skill");
                int skill = needNumber(0, 9);
                need("sack");
                newThieves.add(new ThiefTold(name, skill, needNumber(1, 12)));
            }
        } else {
            throw new Fault(1, here());
        }
        need(";");
    }

    private Law wholeLaw(int within) {
        Law law = test(within);
        while (is("and") || is("or")) {
            boolean and = is("and");
            at++;
            Law a = law;
            Law b = test(within);
            law = (m, o, s, d) -> {
                boolean x = a.of(m, o, s, d) != 0;
                boolean y = b.of(m, o, s, d) != 0;
                return (and ? x & y : x | y) ? 1 : 0;
            };
        }
        return law;
    }

    private Law test(int within) {
        Law a = sum(within);
        if (is("<") || is("=")) {
            boolean less = is("<");
            at++;
            Law b = sum(within);
            return (m, o, s, d) -> {
                int x = a.of(m, o, s, d);
                int y = b.of(m, o, s, d);
                return (less ? x < y : x == y) ? 1 : 0;
            };
        }
        return a;
    }

    private Law sum(int within) {
        Law law = product(within);
        while (is("+") || is("-")) {
            int sign = is("+") ? 1 : -1;
            at++;
            Law a = law;
            Law b = product(within);
            law = (m, o, s, d) -> a.of(m, o, s, d) + sign * b.of(m, o, s, d);
        }
        return law;
    }

    private Law product(int within) {
        Law law = part(within);
        while (is("*")) {
            at++;
            Law a = law;
            Law b = part(within);
            law = (m, o, s, d) -> a.of(m, o, s, d) * b.of(m, o, s, d);
        }
        return law;
    }

    private Law part(int within) {
        Token token = here();
        boolean fits = token.isNumber() || Set.of("much", "old", "sort", "date", "not", "(").contains(token.text);
        if (!fits) {
            throw new Fault(1, token);
        }
        if (within == 5) {
            throw new Fault(5, token);
        }
        at++;
        switch (token.text) {
            case "much":
                return (m, o, s, d) -> m;
            case "old":
                return (m, o, s, d) -> o;
            case "sort":
                return (m, o, s, d) -> s;
            case "date":
                return (m, o, s, d) -> d;
            case "not":
                Law inner = part(within + 1);
                return (m, o, s, d) -> inner.of(m, o, s, d) == 0 ? 1 : 0;
            case "(":
                Law whole = wholeLaw(within + 1);
                need(")");
                return whole;
            default:
                int number = Integer.parseInt(token.text);
                return (m, o, s, d) -> number;
        }
    }

    int year() {
        List<Line> lines = new ArrayList<>();
        cut();
        try {
            while (!is("")) {
                yearLine(lines);
            }
        } catch (Fault fault) {
            return fault.code;
        }
        year = lines;
        return 0;
    }

    private void yearLine(List<Line> lines) {
        String doing = here().text;
        if (!Set.of("night", "steal", "sell", "spend", "swap").contains(doing)) {
            throw new Fault(1, here());
        }
        if (lines.size() == 40) {
            throw new Fault(5, here());
        }
        at++;
        int first = -1;
        int second = -1;
        if (!doing.equals("night")) {
            first = thiefTold();
            at++;
        }
        if (doing.equals("steal")) {
            String name = needName();
            for (int d = 0; d < days.size(); d++) {
                second = days.get(d).name.equals(name) ? d : second;
            }
            if (second < 0) {
                throw new Fault(2, here());
            }
            at++;
        } else if (doing.equals("swap")) {
            second = thiefTold();
            if (second == first) {
                throw new Fault(3, here());
            }
            at++;
        }
        need(";");
        lines.add(new Line(doing, first, second));
    }

    private int thiefTold() {
        String name = needName();
        for (int t = 0; t < thieves.size(); t++) {
            if (thieves.get(t).name.equals(name)) {
                return t;
            }
        }
        throw new Fault(2, here());
    }

    private boolean isDay(int d) {
        return d >= 0 && d < days.size();
    }

    private boolean isThief(int t) {
        return t >= 0 && t < thieves.size();
    }

    private static boolean in(int n, int least, int most) {
        return n >= least && n <= most;
    }

    int day(int d, int what) {
        if (!isDay(d) || !in(what, 0, 4)) {
            return -1;
        }
        DayTold told = days.get(d);
        return new int[] {told.kind, told.worth, now.left[d], now.guard[d], told.guard}[what];
    }

    int thief(int t, int what) {
        if (!isThief(t) || !in(what, 0, 8)) {
            return -2;
        }
        Thief x = now.crew[t];
        ThiefTold told = thieves.get(t);
        return new int[] {told.skill, told.sack, x.much, x.much > 0 ? x.kind : -1, x.much > 0 ? x.old : -1, x.caught,
            x.guilt, x.coins, x.joy}[what];
    }

    private void keep(World before) {
        past.add(before);
        if (past.size() > 16) {
            past.remove(0);
        }
    }

    int steal(int t, int d) {
        World before = now.twin();
        int much = isThief(t) && isDay(d) ? now.steal(t, d) : -1;
        if (much >= 0) {
            keep(before);
        }
        return much;
    }

    int sell(int t) {
        World before = now.twin();
        int paid = isThief(t) ? now.sell(t) : -1;
        if (paid >= 0) {
            keep(before);
        }
        return paid;
    }

    int spend(int t) {
        World before = now.twin();
        int joy = isThief(t) ? now.spend(t) : -1;
        if (joy >= 0) {
            keep(before);
        }
        return joy;
    }

    boolean swap(int t, int u) {
        World before = now.twin();
        boolean done = isThief(t) && isThief(u) && now.swap(t, u);
        if (done) {
            keep(before);
        }
        return done;
    }

    int night() {
        keep(now.twin());
        now.pass();
        return now.holders();
    }

    boolean undo() {
        if (past.isEmpty()) {
            return false;
        }
        now = past.remove(past.size() - 1);
        return true;
    }

    int judged(int what) {
        if (!in(what, 0, 2)) {
            return -2;
        }
        World w = new World();
        int[] answer = {-1, -1, 0};
        for (int i = 0; i < year.size(); i++) {
            Line line = year.get(i);
            boolean can = true;
            int caught = w.caughtOnes();
            switch (line.doing) {
                case "steal":
                    can = w.steal(line.first, line.second) >= 0;
                    break;
                case "sell":
                    can = w.sell(line.first) >= 0;
                    break;
                case "spend":
                    can = w.spend(line.first) >= 0;
                    break;
                case "swap":
                    can = w.swap(line.first, line.second);
                    break;
                default:
                    w.pass();
            }
            if (!can && answer[0] < 0) {
                answer[0] = i;
            }
            if ((w.caughtOnes() & ~caught) != 0 && answer[1] < 0) {
                answer[1] = i;
            }
        }
        answer[2] = w.joy();
        return answer[what];
    }

    int can(int t) {
        if (!isThief(t)) {
            return -1;
        }
        int bits = 0;
        for (int d = 0; d < days.size(); d++) {
            bits |= now.twin().steal(t, d) > 0 ? 1 << d : 0;
        }
        return bits;
    }

    int haul(int t, int d) {
        return isThief(t) && isDay(d) ? now.twin().steal(t, d) : -1;
    }

    int price(int t) {
        return isThief(t) ? now.price(t) : -1;
    }

    int all() {
        int sum = 0;
        for (Thief t : now.crew) {
            sum += t.much;
        }
        return sum;
    }

    int rich() {
        int best = thieves.isEmpty() ? -1 : 0;
        for (int t = 1; t < thieves.size(); t++) {
            best = now.crew[t].coins > now.crew[best].coins ? t : best;
        }
        return best;
    }

    int guilty() {
        int best = thieves.isEmpty() ? -1 : 0;
        for (int t = 1; t < thieves.size(); t++) {
            best = now.crew[t].guilt > now.crew[best].guilt ? t : best;
        }
        return best;
    }

    int later(int d, int n) {
        return isDay(d) && in(n, 0, 60) ? now.behind(n).left[d] : -1;
    }

    int guards(int d, int n) {
        return isDay(d) && in(n, 0, 60) ? now.behind(n).guard[d] : -1;
    }

    int keeps(int t, int n) {
        return isThief(t) && in(n, 0, 60) ? now.behind(n).crew[t].much : -1;
    }

    int freed(int t) {
        for (int n = 0; isThief(t) && n <= 9; n++) {
            if (now.behind(n).free(t)) {
                return n;
            }
        }
        return -1;
    }

    private boolean openBehind(int t, int d, int n) {
        World w = now.behind(n);
        return w.free(t) && w.open(t, d);
    }

    int opens(int t, int d) {
        for (int n = 0; isThief(t) && isDay(d) && n <= 60; n++) {
            if (openBehind(t, d, n)) {
                return n;
            }
        }
        return -1;
    }

    int whole() {
        for (int n = 0; n <= 60; n++) {
            World w = now.behind(n);
            boolean whole = true;
            for (int d = 0; d < days.size(); d++) {
                whole &= w.left[d] == days.get(d).worth;
            }
            if (whole) {
                return n;
            }
        }
        return -1;
    }

    int waits(int t, int what) {
        if (!isThief(t) || !in(what, 0, 1) || now.crew[t].much == 0) {
            return -1;
        }
        int[] best = {0, -1};
        for (int n = 0; n <= 30; n++) {
            int paid = Math.max(0, now.behind(n).price(t));
            if (paid > best[1]) {
                best = new int[] {n, paid};
            }
        }
        return best[what];
    }

    int glads(int t, int what) {
        if (!isThief(t) || !in(what, 0, 1) || now.crew[t].much == 0) {
            return -1;
        }
        int[] best = {0, -1};
        for (int n = 0; n <= 30; n++) {
            int joy = Math.max(0, now.behind(n).spend(t));
            if (joy > best[1]) {
                best = new int[] {n, joy};
            }
        }
        return best[what];
    }

    int slack(int n) {
        if (!in(n, 0, 60) || days.isEmpty()) {
            return -1;
        }
        World w = now.behind(n);
        int best = 0;
        for (int d = 1; d < days.size(); d++) {
            best = w.guard[d] < w.guard[best] ? d : best;
        }
        return best;
    }

    int gang(int what) {
        if (what != -1 && !isThief(what)) {
            return -2;
        }
        // All rows as numbers to the base days + 1, the least first.
        int base = days.size() + 1;
        int rows = (int) Math.pow(base, thieves.size());
        int most = -1;
        int[] best = null;
        for (int row = 0; row < rows; row++) {
            int[] going = new int[thieves.size()];
            int rest = row;
            for (int t = thieves.size() - 1; t >= 0; t--) {
                going[t] = rest % base;
                rest /= base;
            }
            int sum = 0;
            int gone = 0;
            for (int t = 0; t < going.length && sum >= 0; t++) {
                if (going[t] < days.size()) {
                    boolean can = (gone >> going[t] & 1) == 0 && now.ready(t) && now.open(t, going[t]);
                    sum = can ? sum + Math.min(thieves.get(t).sack, now.left[going[t]]) : -1;
                    gone |= 1 << going[t];
                }
            }
            if (sum > most) {
                most = sum;
                best = going;
            }
        }
        if (what == -1) {
            return most;
        }
        return best[what] == days.size() ? -1 : best[what];
    }

    int cover() {
        int sum = 0;
        for (int d = 0; d < days.size(); d++) {
            World w = now.twin();
            while (anyoneOpens(w, d)) {
                if (w.guard[d] == 9) {
                    return -1;
                }
                w.guard[d]++;
                sum++;
            }
        }
        return sum;
    }

    private boolean anyoneOpens(World w, int d) {
        for (int t = 0; t < thieves.size(); t++) {
            if (w.ready(t) && w.open(t, d)) {
                return true;
            }
        }
        return false;
    }

    private int mostOfOne(World w) {
        int most = 0;
        for (int t = 0; t < thieves.size(); t++) {
            for (int d = 0; d < days.size(); d++) {
                most = Math.max(most, w.twin().steal(t, d));
            }
        }
        return most;
    }

    int watch() {
        int most = mostOfOne(now);
        int best = -1;
        for (int d = 0; d < days.size(); d++) {
            World w = now.twin();
            w.left[d] = 0;
            if (mostOfOne(w) < most) {
                most = mostOfOne(w);
                best = d;
            }
        }
        return best;
    }

    int spree(int t, int nights, int what) {
        if (!isThief(t) || !in(nights, 1, 5) || !in(what, 0, 1) || !now.ready(t)) {
            return -2;
        }
        return bestSpree(now, t, nights)[what];
    }

    private int[] bestSpree(World w, int t, int nights) {
        int[] best = {-1, -1};
        for (int d = 0; nights > 0 && d < days.size(); d++) {
            if (w.open(t, d)) {
                World next = w.twin();
                next.steal(t, d);
                int joy = next.spend(t);
                next.pass();
                joy += bestSpree(next, t, nights - 1)[0];
                if (joy > best[0]) {
                    best = new int[] {joy, d};
                }
            }
        }
        int joy = nights > 0 ? bestSpree(w.behind(1), t, nights - 1)[0] : 0;
        return joy > best[0] ? new int[] {joy, -1} : best;
    }

    boolean see(int d, int n, boolean open) {
        if (!isDay(d) || !in(n, 0, 30) || clues.size() == 8) {
            return false;
        }
        clues.add(new Clue(d, n, open));
        return true;
    }

    int who() {
        int bits = 0;
        for (int t = 0; t < thieves.size(); t++) {
            boolean fits = true;
            for (Clue clue : clues) {
                fits &= openBehind(t, clue.day, clue.nights) == clue.open;
            }
            bits |= fits ? 1 << t : 0;
        }
        return bits;
    }

    int ask() {
        int who = who();
        int best = Integer.bitCount(who);
        int answer = -1;
        for (int n = 0; n <= 30; n++) {
            World w = now.behind(n);
            for (int d = 0; d < days.size(); d++) {
                int so = 0;
                int not = 0;
                for (int t = 0; t < thieves.size(); t++) {
                    if ((who >> t & 1) == 1) {
                        if (w.free(t) && w.open(t, d)) {
                            so++;
                        } else {
                            not++;
                        }
                    }
                }
                if (Math.max(so, not) < best) {
                    best = Math.max(so, not);
                    answer = 8 * n + d;
                }
            }
        }
        return answer;
    }

    int chance(int t, int d, int nights, int odds) {
        if (!isThief(t) || !isDay(d) || !in(nights, 1, 6) || !in(odds, 0, 10)) {
            return -1;
        }
        long sum = 0;
        for (int comes = 0; comes < 1 << nights; comes++) {
            World w = now.twin();
            long weight = 1000000;
            for (int n = 0; n < nights; n++) {
                boolean come = (comes >> n & 1) == 1;
                weight = weight * (come ? odds : 10 - odds) / 10;
                for (int e = 0; come && e < days.size(); e++) {
                    w.guard[e] = Math.min(9, w.guard[e] + 3);
                }
                w.pass();
            }
            sum += w.free(t) && w.open(t, d) ? weight : 0;
        }
        return (int) sum;
    }

    int rests(int lose, int tells, int not, int what) {
        if (!in(lose, 0, 9) || !in(tells, 0, 9) || !in(not, 0, 9)) {
            throw new NoSuchElementException();
        }
        // What the first one gets, by 2 * his own choice + the other one's.
        int[] gets = {0, not, tells, -lose};
        List<Integer> rests = new ArrayList<>();
        for (int a = 0; a < 2; a++) {
            for (int b = 0; b < 2; b++) {
                if (gets[2 * (1 - a) + b] <= gets[2 * a + b] && gets[2 * (1 - b) + a] <= gets[2 * b + a]) {
                    rests.add(2 * a + b);
                }
            }
        }
        if (what == -1) {
            return rests.size();
        }
        if (what < 0 || what >= rests.size()) {
            throw new NoSuchElementException();
        }
        return rests.get(what);
    }

    private long g;

    private int draw(int below) {
        g = (g * 1103515245L + 12345L) % 2147483648L;
        return (int) (g / 65536 % below);
    }

    int years(int seed, int nights, int what) {
        if (!in(seed, 0, 9999) || !in(nights, 1, 99) || !in(what, 0, 2)) {
            return -1;
        }
        World w = now.twin();
        int taken = 0;
        g = seed;
        for (int n = 0; n < nights; n++) {
            if (!thieves.isEmpty() && !days.isEmpty()) {
                int t = draw(thieves.size());
                int d = draw(days.size());
                int choice = draw(4);
                if (choice < 2) {
                    taken += Math.max(0, w.steal(t, d));
                } else if (choice == 2) {
                    w.sell(t);
                } else {
                    w.spend(t);
                }
            }
            w.pass();
        }
        return new int[] {taken, w.coins(), w.caughtOnes()}[what];
    }

    boolean mark(int mark, boolean back) {
        if (!in(mark, 0, 3) || back && !marks.containsKey(mark)) {
            return false;
        }
        if (back) {
            Kept kept = marks.get(mark);
            now = kept.world.twin();
            year = new ArrayList<>(kept.year);
            clues = new ArrayList<>(kept.clues);
            past.clear();
        } else {
            marks.put(mark, new Kept(now.twin(), new ArrayList<>(year), new ArrayList<>(clues)));
        }
        return true;
    }

    int count(int what) {
        if (!in(what, 0, 11)) {
            return -1;
        }
        int left = 0;
        for (int much : now.left) {
            left += much;
        }
        return new int[] {days.size(), thieves.size(), now.night, left, now.caughtOnes(), now.holders(), now.coins(),
            now.joy(), year.size(), clues.size(), past.size(), tape.length()}[what];
    }
}
