import java.util.ArrayList;
import java.util.Arrays;
import java.util.Collections;
import java.util.HashSet;
import java.util.List;
import java.util.Set;
import java.util.TreeSet;
import java.util.regex.Matcher;
import java.util.regex.Pattern;

/** The document once more, slow and plain: every answer by looking through all there is, to hold the class against. */
public final class Plain {
    private static final int NONE = -1;
    private static final int LATEST = 999;
    private static final int SHUTS = 0;
    private static final int LEVELS = 1;
    private static final int BOTTLES = 2;
    private static final int TESTS = 3;
    private static final int FLOWS = 4;
    private static final int NIGHTS = 5;
    private static final int BURSTS = 6;
    private static final int DAMAGES = 7;
    private static final int HURTS = 8;
    private static final int FILLINGS = 9;
    private static final int CUPS = 10;
    private static final int PLANTINGS = 11;
    private static final int[] MOST = {80, 40, 60, 40, 60, 40, 40, 40, 40, 80, 40, 40};
    private static final List<String> WORKS = List.of("tap", "pipe", "stone", "trough", "name", "any");
    private static final List<String> WORDS = List.of("level", "age", "node", "trough", "day", "cost");
    private static final Pattern TOKEN = Pattern.compile("[a-z]+|[0-9]+|[<>=;()]");

    private record Row(int who, int day, int value, int since) { }

    private record Tap(int node, int cell, int ahead, boolean trough, int loss, int hard) { }

    private record Job(int tap, int work, int cost, int promised, int doneOn, boolean paid) { }

    private record Text(List<List<String>> statements, int taps) { }

    /** What an IMAGE keeps. */
    private static final class Kept {
        List<Integer> parents = new ArrayList<>();
        List<Tap> taps = new ArrayList<>();
        List<Integer> houses = new ArrayList<>();
        List<Integer> course = new ArrayList<>();
        List<Job> jobs = new ArrayList<>();
        List<Integer> coin = new ArrayList<>();
        List<List<Row>> rows = new ArrayList<>();
        int[] cold = new int[24];
        int today;
        int error;
        int ban = NONE;

        Kept copy() {
            Kept other = new Kept();
            other.parents = new ArrayList<>(parents);
            other.taps = new ArrayList<>(taps);
            other.houses = new ArrayList<>(houses);
            other.course = new ArrayList<>(course);
            other.jobs = new ArrayList<>(jobs);
            other.coin = new ArrayList<>(coin);
            rows.forEach(kind -> other.rows.add(new ArrayList<>(kind)));
            other.cold = cold.clone();
            other.today = today;
            other.error = error;
            other.ban = ban;
            return other;
        }
    }

    private Kept now = new Kept();
    private final List<Kept> images = new ArrayList<>();
    private String tape = "";
    private int faultPlace = NONE;
    private Text capText = new Text(List.of(), 0);
    private final List<Text> trusts = new ArrayList<>();
    private final List<String> donors = new ArrayList<>();
    private final String[] wornNames = new String[24];

    public Plain() {
        for (int kind = 0; kind < MOST.length; kind++) {
            now.rows.add(new ArrayList<>());
        }
    }

    // ---- ranges ----

    private static boolean in(int value, int least, int most) {
        return least <= value && value <= most;
    }

    private static boolean isDay(int day) {
        return in(day, 0, LATEST);
    }

    private static boolean isCell(int cell) {
        return in(cell, 0, 255);
    }

    private boolean isTap(int tap) {
        return in(tap, 0, now.taps.size() - 1);
    }

    private boolean isNode(int node) {
        return in(node, 0, now.parents.size() - 1);
    }

    private boolean isJob(int job) {
        return in(job, 0, now.jobs.size() - 1);
    }

    private static boolean asked(int steps, int day, int known) {
        return in(steps, 0, 30) && isDay(day) && isDay(known);
    }

    private static boolean span(int from, int to, int known) {
        return isDay(from) && isDay(to) && to >= from && isDay(known);
    }

    private static <T> int add(List<T> list, int most, T one) {
        if (list.size() == most) {
            return NONE;
        }
        list.add(one);
        return list.size() - 1;
    }

    private static int kth(Set<Integer> numbers, int k) {
        List<Integer> sorted = new ArrayList<>(new TreeSet<>(numbers));
        return k == NONE ? sorted.size() : in(k, 0, sorted.size() - 1) ? sorted.get(k) : NONE;
    }

    private static int bits(Set<Integer> numbers) {
        return numbers.stream().mapToInt(i -> 1 << i).sum();
    }

    private static Set<Integer> setOf(int bits) {
        Set<Integer> numbers = new TreeSet<>();
        for (int i = 0; i < 31; i++) {
            if ((bits >> i & 1) == 1) {
                numbers.add(i);
            }
        }
        return numbers;
    }

    private static int steps(int a, int b) {
        return Math.abs(a % 16 - b % 16) + Math.abs(a / 16 - b / 16);
    }

    // ---- the city ----

    public int node(int parent) {
        return parent == NONE || isNode(parent) ? add(now.parents, 24, parent) : NONE;
    }

    public int tap(int node, int cell, int ahead, boolean trough, int loss) {
        boolean told = isNode(node) && isCell(cell) && in(ahead, 0, 60000) && in(loss, 0, 999);
        return told ? add(now.taps, 24, new Tap(node, cell, ahead, trough, loss, 50)) : NONE;
    }

    public int house(int cell) {
        return isCell(cell) ? add(now.houses, 30, cell) : NONE;
    }

    public int course(int cell) {
        return isCell(cell) && add(now.course, 20, cell) != NONE ? now.course.size() : NONE;
    }

    public boolean hard(int tap, int v) {
        if (isTap(tap) && in(v, 1, 99)) {
            Tap t = now.taps.get(tap);
            now.taps.set(tap, new Tap(t.node, t.cell, t.ahead, t.trough, t.loss, v));
            return true;
        }
        return false;
    }

    public boolean day(int d) {
        if (in(d, now.today + 1, LATEST)) {
            now.today = d;
            return true;
        }
        return false;
    }

    public boolean error(int v) {
        now.error = in(v, 0, 99) ? v : now.error;
        return in(v, 0, 99);
    }

    public boolean cold(int hour, int chance) {
        if (in(hour, 0, 23) && in(chance, 0, 100)) {
            now.cold[hour] = chance;
            return true;
        }
        return false;
    }

    public boolean ban(int day) {
        if (day == NONE || isDay(day)) {
            now.ban = day;
            return true;
        }
        return false;
    }

    // ---- what is told ----

    private int tell(int kind, boolean told, int who, int day, int value) {
        List<Row> rows = now.rows.get(kind);
        boolean can = told && in(day, 0, now.today);
        return can && add(rows, MOST[kind], new Row(who, day, value, now.today)) != NONE ? rows.size() : NONE;
    }

    public int shut(int tap, int day, boolean is) {
        return tell(SHUTS, isTap(tap), tap, day, is ? 1 : 0);
    }

    public int level(int day, int high) {
        return tell(LEVELS, in(high, 0, 100), 0, day, high);
    }

    public int bottle(int tap, int day, boolean germs) {
        return tell(BOTTLES, isTap(tap), tap, day, germs ? 1 : 0);
    }

    public int test(int tap, int day, boolean lead) {
        return tell(TESTS, isTap(tap), tap, day, lead ? 1 : 0);
    }

    public int flow(int node, int day, int much) {
        return tell(FLOWS, isNode(node) && in(much, 0, 9999), node, day, much);
    }

    public int night(int day, int chance) {
        return tell(NIGHTS, in(chance, 0, 100), 0, day, chance);
    }

    public int burst(int tap, int day) {
        return tell(BURSTS, isTap(tap), tap, day, 0);
    }

    public int damage(int tap, int day, int hour) {
        return tell(DAMAGES, isTap(tap) && in(hour, 0, 23), tap, day, hour);
    }

    public int hurt(int tap, int day, int coin) {
        return tell(HURTS, isTap(tap) && in(coin, 0, 9999), tap, day, coin);
    }

    public int fill(int tap, int day, int bottles) {
        return tell(FILLINGS, isTap(tap) && in(bottles, 0, 9999), tap, day, bottles);
    }

    public int cup(int tap, int day, boolean is) {
        return tell(CUPS, isTap(tap), tap, day, is ? 1 : 0);
    }

    public int plant(int tap, int day, boolean is) {
        return tell(PLANTINGS, isTap(tap) && now.taps.get(tap).trough, tap, day, is ? 1 : 0);
    }

    private Row last(int kind, int who, int day, int known) {
        Row last = null;
        for (Row row : now.rows.get(kind)) {
            boolean counts = row.who == who && row.day <= day && row.since <= known;
            last = counts && (last == null || row.day >= last.day) ? row : last;
        }
        return last;
    }

    private boolean so(int kind, int who, int day, int known) {
        Row row = last(kind, who, day, known);
        return row != null && row.value == 1;
    }

    private List<Row> within(int kind, int from, int to, int known) {
        return now.rows.get(kind).stream().filter(r -> in(r.day, from, to) && r.since <= known).toList();
    }

    // ---- texts ----

    public int feed(int a, int b, int c, int d, int e) {
        if (tape.length() + 20 > 500) {
            return NONE;
        }
        for (int number : new int[] {a, b, c, d, e}) {
            for (int place = 3; place >= 0; place--) {
                tape += (char) (number >> 8 * place & 255);
            }
        }
        return tape.length();
    }

    private boolean has(int n) {
        return in(n, 0, tape.length());
    }

    private String take(int n) {
        String text = tape.substring(0, n);
        tape = "";
        return text;
    }

    public int cap(int n) {
        if (!has(n)) {
            return -2;
        }
        List<List<String>> read = read(take(n), false);
        capText = read == null ? capText : new Text(read, 0);
        return read == null ? NONE : read.size();
    }

    public int trust(int n, int taps, int coin) {
        if (!has(n) || !in(taps, 0, (1 << 24) - 1) || !in(coin, 0, 99999)) {
            return -2;
        }
        if (trusts.size() == 5) {
            return -3;
        }
        List<List<String>> read = read(take(n), true);
        if (read == null) {
            return NONE;
        }
        trusts.add(new Text(read, taps));
        now.coin.add(coin);
        return trusts.size() - 1;
    }

    public int donor(int n) {
        if (!has(n)) {
            return -2;
        }
        if (donors.size() == 20) {
            return -3;
        }
        String name = take(n);
        return isName(name, "[a-z]*") ? add(donors, 20, name) : NONE;
    }

    public int worn(int tap, int n) {
        if (!has(n) || !isTap(tap)) {
            return -2;
        }
        String name = take(n);
        if (!isName(name, "[a-z.]*")) {
            return NONE;
        }
        wornNames[tap] = name;
        return fitting(tap).size();
    }

    public int fault() {
        return faultPlace;
    }

    private boolean isName(String name, String letters) {
        int good = 0;
        while (good < name.length() && good < 12 && name.substring(0, good + 1).matches(letters)) {
            good++;
        }
        faultPlace = name.isEmpty() || good < name.length() ? good : NONE;
        return faultPlace == NONE;
    }

    /** The statements, each as its tokens; or null. */
    private List<List<String>> read(String text, boolean trust) {
        List<List<String>> statements = new ArrayList<>();
        List<String> statement = new ArrayList<>();
        StringBuilder open = new StringBuilder();
        Matcher token = TOKEN.matcher(text);
        String state = "start";
        for (int at = 0;; at = token.end()) {
            while (at < text.length() && (text.charAt(at) == 32 || text.charAt(at) == 10)) {
                at++;
            }
            faultPlace = at;
            if (at == text.length() || statements.size() == 24) {
                faultPlace = at == text.length() && state.equals("start") ? NONE : at;
                return faultPlace == NONE ? statements : null;
            }
            token.region(at, text.length());
            if (!token.lookingAt()) {
                return null;
            }
            state = next(state, token.group(), trust, open);
            statement.add(token.group());
            if (state.equals("start")) {
                statements.add(statement);
                statement = new ArrayList<>();
            }
            if (state.isEmpty()) {
                return null;
            }
        }
    }

    private static String next(String state, String token, boolean trust, StringBuilder open) {
        switch (state) {
            case "start":
                return !token.matches(trust ? "pay|refuse" : "cap|spare") ? "" : trust ? "work" : "head";
            case "work":
                return WORKS.contains(token) ? "head" : "";
            case "head":
                return token.equals("if") ? "one" : token.equals(";") ? "start" : "";
            case "one":
                if (token.equals("not") || token.equals("(")) {
                    open.append(token.charAt(0));
                    return open.length() > 9 ? "" : "one";
                }
                return WORDS.contains(token) ? "sign" : "";
            case "sign":
                return token.matches("[<>=]") ? "number" : "";
            case "number":
                return token.matches("[0-9]{1,5}") ? closed(open) : "";
            default:
                if (token.equals(")") && open.toString().endsWith("(")) {
                    open.setLength(open.length() - 1);
                    return closed(open);
                }
                return token.matches("and|or") ? "one" : token.equals(";") && open.length() == 0 ? "start" : "";
        }
    }

    /** A "not" is closed with its ONE. */
    private static String closed(StringBuilder open) {
        while (open.toString().endsWith("n")) {
            open.setLength(open.length() - 1);
        }
        return "closed";
    }

    private boolean says(Text text, int work, int[] facts) {
        for (List<String> statement : text.statements) {
            boolean named = statement.size() > 1 && WORKS.contains(statement.get(1));
            boolean meant = !named || statement.get(1).equals("any") || WORKS.indexOf(statement.get(1)) == work;
            int from = statement.indexOf("if") + 1;
            if (meant && (from == 0 || any(new ArrayList<>(statement.subList(from, statement.size())), facts))) {
                return statement.get(0).matches("cap|pay");
            }
        }
        return false;
    }

    private static boolean any(List<String> tokens, int[] facts) {
        boolean so = all(tokens, facts);
        while (tokens.get(0).equals("or")) {
            tokens.remove(0);
            so |= all(tokens, facts);
        }
        return so;
    }

    private static boolean all(List<String> tokens, int[] facts) {
        boolean so = one(tokens, facts);
        while (tokens.get(0).equals("and")) {
            tokens.remove(0);
            so &= one(tokens, facts);
        }
        return so;
    }

    private static boolean one(List<String> tokens, int[] facts) {
        String first = tokens.remove(0);
        if (first.equals("not")) {
            return !one(tokens, facts);
        }
        if (first.equals("(")) {
            boolean so = any(tokens, facts);
            tokens.remove(0);
            return so;
        }
        int fact = facts[WORDS.indexOf(first)];
        String sign = tokens.remove(0);
        int number = Integer.parseInt(tokens.remove(0));
        return sign.equals("<") ? fact < number : sign.equals(">") ? fact > number : fact == number;
    }

    // ---- jobs ----

    public int job(int tap, int work, int cost, int promised) {
        boolean told = isTap(tap) && in(work, 0, 4) && in(cost, 1, 9999) && isDay(promised);
        return told ? add(now.jobs, 40, new Job(tap, work, cost, promised, NONE, false)) : NONE;
    }

    public boolean done(int job, int day) {
        if (!isJob(job) || !in(day, 0, now.today) || now.jobs.get(job).doneOn != NONE) {
            return false;
        }
        Job j = now.jobs.get(job);
        now.jobs.set(job, new Job(j.tap, j.work, j.cost, j.promised, day, j.paid));
        return true;
    }

    private boolean mayPay(int trust, int tap, int work, int cost) {
        Text text = trusts.get(trust);
        return (text.taps >> tap & 1) == 1 && says(text, work, facts(tap, now.today, now.today, cost));
    }

    public int pays(int trust, int job) {
        if (!in(trust, 0, trusts.size() - 1) || !isJob(job)) {
            return NONE;
        }
        Job j = now.jobs.get(job);
        return mayPay(trust, j.tap, j.work, j.cost) ? 1 : 0;
    }

    public int payers(int tap, int work, int cost) {
        if (!isTap(tap) || !in(work, 0, 4) || !in(cost, 1, 9999)) {
            return NONE;
        }
        int bits = 0;
        for (int trust = 0; trust < trusts.size(); trust++) {
            bits |= mayPay(trust, tap, work, cost) ? 1 << trust : 0;
        }
        return bits;
    }

    private List<Integer> askedJobs() {
        List<Integer> asked = new ArrayList<>();
        for (int job = 0; job < now.jobs.size() && asked.size() < 6; job++) {
            if (now.jobs.get(job).doneOn == NONE && !now.jobs.get(job).paid) {
                asked.add(job);
            }
        }
        return asked;
    }

    /** What the council pays least, and the code; by all codes there are. */
    private int[] least() {
        List<Integer> asked = askedJobs();
        int[] best = {Integer.MAX_VALUE, 0};
        boolean[][] may = new boolean[6][6];
        for (int i = 0; i < asked.size(); i++) {
            for (int trust = 0; trust < trusts.size(); trust++) {
                may[i][trust] = pays(trust, asked.get(i)) == 1;
            }
        }
        int codes = (int) Math.pow(6, asked.size());
        for (int code = 0; code < codes; code++) {
            int[] paid = new int[6];
            boolean can = true;
            int council = 0;
            for (int i = 0, rest = code; i < asked.size() && can; i++, rest /= 6) {
                int cost = now.jobs.get(asked.get(i)).cost;
                int trust = rest % 6 - 1;
                council += trust < 0 ? cost : 0;
                can = trust < 0 || trust < trusts.size() && may[i][trust];
                if (can && trust >= 0) {
                    paid[trust] += cost;
                    can = paid[trust] <= now.coin.get(trust);
                }
            }
            if (can && council < best[0]) {
                best = new int[] {council, code};
            }
        }
        return best;
    }

    public int council(int what) {
        return what == 2 ? askedJobs().size() : in(what, 0, 1) ? least()[what] : NONE;
    }

    public int settle() {
        List<Integer> asked = askedJobs();
        if (asked.isEmpty()) {
            return NONE;
        }
        int[] least = least();
        int rest = least[1];
        for (int job : asked) {
            Job j = now.jobs.get(job);
            now.jobs.set(job, new Job(j.tap, j.work, j.cost, j.promised, j.doneOn, true));
            if (rest % 6 > 0) {
                now.coin.set(rest % 6 - 1, now.coin.get(rest % 6 - 1) - j.cost);
            }
            rest /= 6;
        }
        return least[0];
    }

    public int late(int job) {
        if (job == NONE) {
            int sum = 0;
            for (int j = 0; j < now.jobs.size(); j++) {
                sum += late(j);
            }
            return sum;
        }
        if (!isJob(job)) {
            return -2;
        }
        Job j = now.jobs.get(job);
        return Math.max(0, (j.doneOn == NONE ? now.today : j.doneOn) - j.promised);
    }

    // ---- what runs ----

    private int[] facts(int tap, int day, int known, int cost) {
        Tap t = now.taps.get(tap);
        Row level = last(LEVELS, 0, day, known);
        boolean trough = t.trough && !so(PLANTINGS, tap, day, known);
        return new int[] {level == null ? 100 : level.value, (day + t.ahead) / 360, t.node, trough ? 1 : 0, day, cost};
    }

    private boolean capped(int tap, int day, int known) {
        return says(capText, NONE, facts(tap, day, known, 0));
    }

    public int runs(int tap, int day, int known) {
        if (!isTap(tap) || !isDay(day) || !isDay(known)) {
            return NONE;
        }
        return so(SHUTS, tap, day, known) ? 1 : capped(tap, day, known) ? 2 : 0;
    }

    private Set<Integer> tapsThat(int run, int day, int known) {
        Set<Integer> taps = new TreeSet<>();
        for (int tap = 0; tap < now.taps.size(); tap++) {
            if (runs(tap, day, known) == run) {
                taps.add(tap);
            }
        }
        return taps;
    }

    private boolean near(int cell, int tap, int most) {
        return steps(cell, now.taps.get(tap).cell) <= most;
    }

    public int covered(int house, int steps, int day, int known) {
        if (!in(house, 0, now.houses.size() - 1) || !asked(steps, day, known)) {
            return -2;
        }
        Set<Integer> running = tapsThat(0, day, known);
        for (int way = 0; way <= steps; way++) {
            for (int tap : running) {
                if (near(now.houses.get(house), tap, way)) {
                    return tap;
                }
            }
        }
        return NONE;
    }

    private Set<Integer> thirsty(int steps, int day, int known) {
        Set<Integer> houses = new TreeSet<>();
        for (int house = 0; house < now.houses.size(); house++) {
            if (covered(house, steps, day, known) == NONE) {
                houses.add(house);
            }
        }
        return houses;
    }

    public int thirsty(int steps, int day, int known, int k) {
        return asked(steps, day, known) ? kth(thirsty(steps, day, known), k) : NONE;
    }

    public int mend(int steps, int day, int known, int what) {
        if (!asked(steps, day, known) || !in(what, 0, 2)) {
            return NONE;
        }
        List<Integer> such = new ArrayList<>(tapsThat(1, day, known));
        such.removeIf(tap -> capped(tap, day, known));
        if (such.size() > 12) {
            return NONE;
        }
        List<Integer> helped = new ArrayList<>(thirsty(steps, day, known));
        int all = helped.size();
        helped.removeIf(house -> such.stream().noneMatch(tap -> near(now.houses.get(house), tap, steps)));
        if (what == 2) {
            return all - helped.size();
        }
        return what == 0 ? fewest(such, helped, steps) : apart(such, helped, steps);
    }

    private int fewest(List<Integer> such, List<Integer> helped, int steps) {
        int best = NONE;
        for (int choice = 0; choice < 1 << such.size(); choice++) {
            Set<Integer> opened = new TreeSet<>();
            setOf(choice).forEach(i -> opened.add(such.get(i)));
            boolean can = helped.stream().allMatch(h -> opened.stream().anyMatch(t -> near(now.houses.get(h), t, steps)));
            if (can && (best == NONE || opened.size() < Integer.bitCount(best))) {
                best = bits(opened);
            }
        }
        return best;
    }

    private int apart(List<Integer> such, List<Integer> helped, int steps) {
        List<Integer> first = helped.subList(0, Math.min(12, helped.size()));
        int most = 0;
        for (int choice = 0; choice < 1 << first.size(); choice++) {
            boolean can = true;
            for (int tap : such) {
                int near = 0;
                for (int i : setOf(choice)) {
                    near += near(now.houses.get(first.get(i)), tap, steps) ? 1 : 0;
                }
                can &= near <= 1;
            }
            most = can ? Math.max(most, Integer.bitCount(choice)) : most;
        }
        return most;
    }

    public int gift(int cell, int steps, int day, int known) {
        if (!isCell(cell) || !asked(steps, day, known)) {
            return NONE;
        }
        return (int) thirsty(steps, day, known).stream().filter(h -> steps(now.houses.get(h), cell) <= steps).count();
    }

    // ---- the water ----

    private boolean below(int node, int other) {
        return node == other || node != NONE && below(now.parents.get(node), other);
    }

    private boolean tapBelow(int tap, int node) {
        return below(now.taps.get(tap).node, node);
    }

    public int germs(int day, int window, int known) {
        if (!isDay(day) || !in(window, 1, 60) || !isDay(known)) {
            return NONE;
        }
        List<Row> bottles = within(BOTTLES, day - window + 1, day, known);
        int bits = 0;
        for (int node = 0; node < now.parents.size(); node++) {
            int at = node;
            boolean may = bottles.stream().allMatch(b -> tapBelow(b.who, at) == (b.value == 1));
            bits |= may && bottles.stream().anyMatch(b -> b.value == 1) ? 1 << node : 0;
        }
        return bits;
    }

    private boolean sureNot(int pipe, List<Row> tests) {
        return tests.stream().anyMatch(t -> t.value == 0 && tapBelow(t.who, pipe));
    }

    private boolean isPipe(int node) {
        return now.parents.get(node) != NONE;
    }

    public int lead(int node, int known) {
        if (!isNode(node) || !isPipe(node) || !isDay(known)) {
            return NONE;
        }
        List<Row> tests = within(TESTS, 0, LATEST, known);
        if (sureNot(node, tests)) {
            return 0;
        }
        for (Row test : tests) {
            Set<Integer> open = new TreeSet<>();
            for (int pipe = 0; pipe < now.parents.size(); pipe++) {
                if (isPipe(pipe) && tapBelow(test.who, pipe) && !sureNot(pipe, tests)) {
                    open.add(pipe);
                }
            }
            if (test.value == 1 && open.equals(Set.of(node))) {
                return 1;
            }
        }
        return 2;
    }

    private int[] flowOf(int node, int day, int known) {
        Row flow = last(FLOWS, node, day, known);
        if (flow == null) {
            return new int[] {0, 9999};
        }
        return new int[] {Math.max(0, flow.value - now.error), flow.value + now.error};
    }

    public int drips(int node, int day, int known, int what) {
        if (!isNode(node) || !isDay(day) || !isDay(known) || !in(what, 0, 1)) {
            return NONE;
        }
        if (last(FLOWS, node, day, known) == null) {
            return NONE;
        }
        int rest = flowOf(node, day, known)[what];
        for (int other = 0; other < now.parents.size(); other++) {
            rest -= now.parents.get(other) == node ? flowOf(other, day, known)[1 - what] : 0;
        }
        return Math.max(0, rest);
    }

    // ---- ways ----

    private List<List<Integer>> orders(Set<Integer> stops) {
        if (stops.isEmpty()) {
            return List.of(List.of());
        }
        List<List<Integer>> all = new ArrayList<>();
        for (int first : stops) {
            Set<Integer> left = new TreeSet<>(stops);
            left.remove(first);
            for (List<Integer> rest : orders(left)) {
                List<Integer> order = new ArrayList<>(List.of(first));
                order.addAll(rest);
                all.add(order);
            }
        }
        return all;
    }

    private boolean areTaps(int taps, int most) {
        return taps > 0 && isTap(31 - Integer.numberOfLeadingZeros(taps)) && in(Integer.bitCount(taps), 1, most);
    }

    public int round(int taps, int cell) {
        if (!areTaps(taps, 8) || !isCell(cell)) {
            return NONE;
        }
        int best = Integer.MAX_VALUE;
        for (List<Integer> order : orders(setOf(taps))) {
            int at = cell;
            int way = 0;
            for (int tap : order) {
                way += steps(at, now.taps.get(tap).cell);
                at = now.taps.get(tap).cell;
            }
            best = Math.min(best, way + steps(at, cell));
        }
        return best;
    }

    public int frost(int taps, int cell, int speed, int what) {
        if (!areTaps(taps, 7) || !isCell(cell) || !in(speed, 1, 99) || !in(what, 0, Integer.bitCount(taps))) {
            return NONE;
        }
        int best = Integer.MAX_VALUE;
        List<Integer> bestOrder = List.of();
        for (List<Integer> order : orders(setOf(taps))) {
            int at = cell;
            int hour = 0;
            int loss = 0;
            for (int tap : order) {
                int way = steps(at, now.taps.get(tap).cell);
                hour += way / speed + (way % speed > 0 ? 1 : 0);
                at = now.taps.get(tap).cell;
                loss += now.taps.get(tap).loss * now.cold[Math.min(hour, 23)];
            }
            if (loss < best) {
                best = loss;
                bestOrder = order;
            }
        }
        return what == 0 ? best : bestOrder.get(what - 1);
    }

    public int horse(int from, int to, int most, int day, int known) {
        if (!isCell(from) || !isCell(to) || !asked(most, day, known)) {
            return NONE;
        }
        Set<Integer> reached = new HashSet<>(Set.of(from));
        for (int drinks = 0; drinks <= now.taps.size(); drinks++) {
            if (reached.stream().anyMatch(cell -> steps(cell, to) <= most)) {
                return drinks;
            }
            for (int cell : List.copyOf(reached)) {
                for (int tap : tapsThat(0, day, known)) {
                    if (near(cell, tap, most) && facts(tap, day, known, 0)[3] == 1) {
                        reached.add(now.taps.get(tap).cell);
                    }
                }
            }
        }
        return NONE;
    }

    public int stations(int every, int near, int day, int known, int what) {
        int length = now.course.size();
        if (!in(every, 1, 20) || !asked(near, day, known) || length == 0 || what < 0) {
            return NONE;
        }
        boolean[] may = new boolean[length];
        for (int place = 0; place < length; place++) {
            int cell = now.course.get(place);
            may[place] = tapsThat(0, day, known).stream().anyMatch(tap -> near(cell, tap, near));
        }
        for (int many = 0; many <= length; many++) {
            if (chain(may, every, -1, many, length)) {
                return what == 0 ? many : what <= many ? latest(may, every, many, what) : NONE;
            }
        }
        return NONE;
    }

    /** Whether so many stations behind a place are enough from there on. */
    private static boolean chain(boolean[] may, int every, int from, int many, int length) {
        boolean[] ends = new boolean[length + 1];
        ends[from + 1] = true;
        for (int i = 0; i < many; i++) {
            boolean[] next = new boolean[length + 1];
            for (int at = 0; at <= length; at++) {
                for (int to = at + 1; ends[at] && to <= Math.min(length, at + every); to++) {
                    next[to] |= may[to - 1];
                }
            }
            ends = next;
        }
        for (int at = 0; at <= length; at++) {
            if (ends[at] && length - at < every) {
                return true;
            }
        }
        return false;
    }

    private static int latest(boolean[] may, int every, int many, int which) {
        int at = -1;
        for (int i = 1; i <= which; i++) {
            int best = NONE;
            for (int to = at + 1; to < may.length && to <= at + every; to++) {
                best = may[to] && chain(may, every, to, many - i, may.length) ? to : best;
            }
            at = best;
        }
        return at;
    }

    // ---- names ----

    private Set<Integer> fitting(int tap) {
        Set<Integer> fit = new TreeSet<>();
        for (int donor = 0; donor < donors.size(); donor++) {
            if (donors.get(donor).matches(wornNames[tap])) {
                fit.add(donor);
            }
        }
        return fit;
    }

    private boolean isWorn(int tap) {
        return isTap(tap) && wornNames[tap] != null;
    }

    public int fits(int tap, int k) {
        return isWorn(tap) ? kth(fitting(tap), k) : NONE;
    }

    /** All sets of donors that may be taken, tap by tap. */
    private boolean someWay(int tap, int donor) {
        Set<Integer> taken = new HashSet<>(Set.of(1 << donor));
        for (int t = 0; t < now.taps.size(); t++) {
            if (t != tap && isWorn(t)) {
                Set<Integer> more = new HashSet<>();
                for (int d : fitting(t)) {
                    taken.stream().filter(set -> (set >> d & 1) == 0).forEach(set -> more.add(set | 1 << d));
                }
                taken = more;
            }
        }
        return fitting(tap).contains(donor) && !taken.isEmpty();
    }

    public int could(int tap, int donor) {
        return isWorn(tap) && in(donor, 0, donors.size() - 1) ? someWay(tap, donor) ? 1 : 0 : NONE;
    }

    public int remembers(int tap) {
        if (!isWorn(tap)) {
            return -2;
        }
        List<Integer> all = new ArrayList<>();
        for (int donor = 0; donor < donors.size(); donor++) {
            if (someWay(tap, donor)) {
                all.add(donor);
            }
        }
        return all.isEmpty() ? -2 : all.size() == 1 ? all.get(0) : NONE;
    }

    // ---- days ----

    public int beside(int from, int to, int known, int what) {
        if (!span(from, to, known) || !in(what, 0, 3)) {
            return NONE;
        }
        List<Row> bursts = within(BURSTS, from, to, known);
        switch (what) {
            case 0:
                return bursts.size();
            case 1:
                return bursts.stream().mapToInt(b -> now.taps.get(b.who).loss).sum();
            case 2:
                int sum = 0;
                for (int day = from; day <= to; day++) {
                    int on = day;
                    long open = setOf((1 << now.taps.size()) - 1).stream().filter(t -> !so(SHUTS, t, on, known)).count();
                    sum += chance(day, known) * (int) open;
                }
                return sum;
            default:
                Set<Integer> though = new TreeSet<>();
                bursts.stream().filter(b -> so(SHUTS, b.who, b.day, known)).forEach(b -> though.add(b.who));
                return bits(though);
        }
    }

    /** The chance of a NIGHT on that DAY; 0, if there is none. */
    private int chance(int day, int known) {
        int chance = 0;
        for (Row night : within(NIGHTS, day, day, known)) {
            chance = night.value;
        }
        return chance;
    }

    public int hurts(int from, int to, int known, int what) {
        if (!span(from, to, known) || !in(what, 0, 2)) {
            return NONE;
        }
        List<Row> hurts = within(HURTS, from, to, known);
        if (what == 1) {
            return hurts.stream().mapToInt(Row::value).sum();
        }
        return (int) hurts.stream()
                .filter(h -> what == 0 || chance(h.day, known) > 0 && !so(SHUTS, h.who, h.day, known)).count();
    }

    public int wears(int tap, int day) {
        if (!isTap(tap) || !isDay(day)) {
            return NONE;
        }
        int since = -now.taps.get(tap).ahead;
        for (Job job : now.jobs) {
            if (job.tap == tap && job.work == WORKS.indexOf("stone") && in(job.doneOn, 0, day)) {
                since = Math.max(since, job.doneOn);
            }
        }
        return Math.min(100, (day - since) * 100 / (360 * now.taps.get(tap).hard));
    }

    public int gone(int tap) {
        for (int day = 0; day <= LATEST; day++) {
            if (wears(tap, day) == 100) {
                return day;
            }
        }
        return NONE;
    }

    public int watch(int hours, int known, int what) {
        if (!in(hours, 1, 24) || !isDay(known) || !in(what, 0, 1)) {
            return NONE;
        }
        int[] many = new int[24];
        for (int first = 0; first < 24; first++) {
            for (int i = 0; i < hours; i++) {
                int hour = (first + i) % 24;
                many[first] += (int) within(DAMAGES, 0, LATEST, known).stream().filter(d -> d.value == hour).count();
            }
        }
        int most = Arrays.stream(many).max().getAsInt();
        for (int first = 0; first < 24; first++) {
            if (many[first] == most) {
                return what == 0 ? first : most;
            }
        }
        return NONE;
    }

    private int bottles(int tap, int from, int to, int known) {
        return within(FILLINGS, from, to, known).stream().filter(f -> f.who == tap).mapToInt(Row::value).sum();
    }

    public int filled(int tap, int from, int to, int known) {
        if (tap != NONE && !isTap(tap) || !span(from, to, known)) {
            return NONE;
        }
        int sum = 0;
        for (int t = 0; t < now.taps.size(); t++) {
            sum += tap == NONE || tap == t ? bottles(t, from, to, known) : 0;
        }
        return sum;
    }

    public int busiest(int from, int to, int known, int k) {
        if (!span(from, to, known) || !isTap(k)) {
            return NONE;
        }
        List<Integer> order = new ArrayList<>(setOf((1 << now.taps.size()) - 1));
        Collections.sort(order, (a, b) -> bottles(b, from, to, known) - bottles(a, from, to, known));
        return order.get(k);
    }

    public int banned(int day, int known, int k) {
        if (!isDay(day) || !isDay(known)) {
            return NONE;
        }
        Set<Integer> taps = new TreeSet<>();
        for (int tap = 0; tap < now.taps.size(); tap++) {
            if (now.ban != NONE && day >= now.ban && so(CUPS, tap, day, known)) {
                taps.add(tap);
            }
        }
        return kth(taps, k);
    }

    // ---- images ----

    public int image() {
        return add(images, 3, now.copy());
    }

    public boolean back(int image) {
        if (!in(image, 0, images.size() - 1)) {
            return false;
        }
        List<Integer> coin = now.coin;
        now = images.get(image).copy();
        now.coin.addAll(coin.subList(now.coin.size(), coin.size()));
        return true;
    }

    public int count(int what) {
        int[] first = {now.parents.size(), now.taps.size(), now.houses.size(), now.today, trusts.size(), donors.size(),
            now.jobs.size(), (int) now.jobs.stream().filter(j -> j.doneOn != NONE).count(),
            (int) now.jobs.stream().filter(Job::paid).count(), tape.length()};
        int worn = (int) setOf((1 << now.taps.size()) - 1).stream().filter(this::isWorn).count();
        int[] others = {images.size(), capText.statements.size(), now.course.size(), now.ban, worn};
        if (in(what, 10, 9 + now.coin.size())) {
            return now.coin.get(what - 10);
        }
        return in(what, 0, 9) ? first[what] : in(what, 20, 24) ? others[what - 20] : NONE;
    }
}
