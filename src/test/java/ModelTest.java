import java.lang.reflect.Method;
import java.util.ArrayList;
import java.util.Arrays;
import java.util.Collections;
import java.util.List;
import java.util.Map;
import java.util.TreeMap;

/** All promises together by chance: runs of calls, many at the edges of what may be, against the plain words. */
public final class ModelTest {
    private static final Due DUE = new Due();
    private static final int RUNS = 260;
    private static final int CALLS = 512;
    /** Of each call what its numbers are; "?" is true or false. */
    private static final Map<String, String> GIVEN = new TreeMap<>();
    private static final Map<String, Method> CLASS = new TreeMap<>();
    private static final Map<String, Method> PLAIN = new TreeMap<>();
    private static final String[] FIRST = {"node", "tap", "tap", "house", "house", "course", "job", "day", "worn", "donor"};

    private static CityCups x;
    private static Plain y;
    private static int calls;
    private static int lastDay;
    private static int far;
    private static int written;

    public static void main(String[] args) throws Exception {
        given();
        for (Method m : CityCups.class.getDeclaredMethods()) {
            if (GIVEN.containsKey(m.getName())) {
                CLASS.put(m.getName(), m);
                PLAIN.put(m.getName(), Plain.class.getDeclaredMethod(m.getName(), m.getParameterTypes()));
            }
        }
        DUE.is("calls of the face", CLASS.size(), 60);
        for (int run = 0; run < RUNS; run++) {
            run(run);
        }
        DUE.end("ModelTest");
    }

    private static void given() {
        String[] all = {"node parent", "tap node cell ahead ? loss", "house cell", "day later", "shut tap past ?",
            "level past hundred", "bottle tap past ?", "test tap past ?", "flow node past much", "error ninetynine",
            "cold hour hundred", "feed any any any any any", "cap n", "trust n taps coin", "donor n", "worn tap n",
            "fault", "job tap work cost day", "done job past", "runs tap day day", "covered house steps day day",
            "thirsty steps day day k", "mend steps day day what2", "germs day window day", "lead node day",
            "drips node day day what1", "pays trust job", "council what2", "settle", "late jobs", "round some cell",
            "frost some cell speed what7", "fits tap k", "gift cell steps day day", "hard tap hardness",
            "night past hundred", "burst tap past", "damage tap past hour", "hurt tap past much", "fill tap past much",
            "cup tap past ?", "plant tap past ?", "ban days", "course cell", "beside day day day what3",
            "hurts day day day what2", "wears tap day", "gone tap", "horse cell cell steps day day",
            "stations every steps day day what5", "watch hours day what1", "filled taps1 day day day",
            "busiest day day day k", "banned day day k", "payers tap work cost", "could tap donor", "remembers tap",
            "image", "back image", "count what25"};
        for (String call : all) {
            String[] parts = call.split(" ", 2);
            GIVEN.put(parts[0], parts.length > 1 ? parts[1] : "");
        }
    }

    private static void run(int run) throws Exception {
        x = new CityCups();
        y = new Plain();
        calls = 0;
        lastDay = DUE.any(3) == 0 ? 999 : 1 + DUE.any(25);
        far = DUE.any(3) == 0 ? 255 : 1 + DUE.any(60);
        List<String> liked = new ArrayList<>(GIVEN.keySet());
        liked.remove("feed");
        Collections.shuffle(liked, new java.util.Random(run));
        liked = liked.subList(0, 1 + DUE.any(14));
        List<String> names = new ArrayList<>(GIVEN.keySet());
        for (int i = 0; calls < CALLS; i++) {
            String name = DUE.any(2) == 0 ? liked.get(DUE.any(liked.size())) : names.get(DUE.any(names.size()));
            if (i < 3 * run % 90 + 5) {
                name = FIRST[DUE.any(FIRST.length)];
            }
            if (name.equals("back") && DUE.any(4) > 0 || name.equals("round") && DUE.any(3) > 0) {
                continue;
            }
            if (name.matches("cap|trust|donor|worn") && DUE.any(10) > 0) {
                write(name);
            }
            call(run, name, numbers(name));
        }
    }

    private static void call(int run, String name, Object[] numbers) throws Exception {
        if (calls++ >= CALLS) {
            return;
        }
        long due = number(PLAIN.get(name).invoke(y, numbers));
        long got = number(CLASS.get(name).invoke(x, numbers));
        DUE.is("run " + run + ", call " + calls + ": " + name + Arrays.toString(numbers), got, due);
    }

    private static long number(Object answer) {
        return answer instanceof Boolean ? (Boolean) answer ? 1 : 0 : (Integer) answer;
    }

    /** Feeds a text for the call, as it should be or a little broken. */
    private static void write(String name) throws Exception {
        String text = name.equals("cap") || name.equals("trust") ? law(name.equals("trust")) : name(name.equals("worn"));
        StringBuilder broken = new StringBuilder(text);
        for (int i = 0; i < DUE.any(8) - 5; i++) {
            broken.insert(DUE.any(broken.length() + 1), " ;()1anot<.\nZ".charAt(DUE.any(12)));
        }
        written = Math.min(480, broken.length());
        while (broken.length() % 20 != 0) {
            broken.append(' ');
        }
        if (y.count(9) > 0 && DUE.any(4) > 0) {
            call(-1, "cap", new Object[] {0});
        }
        for (int at = 0; at < Math.min(480, broken.length()); at += 20) {
            Object[] five = new Object[5];
            for (int i = 0; i < 5; i++) {
                int four = 0;
                for (int b = 0; b < 4; b++) {
                    four = four << 8 | broken.charAt(at + 4 * i + b);
                }
                five[i] = four;
            }
            call(-1, "feed", five);
        }
    }

    private static String name(boolean dots) {
        StringBuilder text = new StringBuilder();
        int letters = DUE.any(6) == 0 ? DUE.any(15) : 2;
        for (int i = 0; i < letters; i++) {
            text.append(dots && DUE.any(2) == 0 ? '.' : (char) ('a' + DUE.any(i == 0 ? 3 : 2)));
        }
        return text.toString();
    }

    private static String law(boolean trust) {
        StringBuilder text = new StringBuilder();
        int statements = DUE.any(15) == 0 ? 23 + DUE.any(3) : DUE.any(4);
        for (int i = 0; i < statements; i++) {
            boolean yes = DUE.any(3) > 0;
            text.append(trust ? yes ? "pay " : "refuse " : yes ? "cap" : "spare");
            text.append(trust ? List.of("tap", "pipe", "stone", "trough", "name", "any", "any").get(DUE.any(7)) : "");
            text.append(statements < 20 && DUE.any(3) > 0 ? " if " + any(DUE.any(11)) : "").append(";");
        }
        return text.toString();
    }

    private static String any(int opens) {
        String one = one(opens);
        int kind = DUE.any(8);
        return kind > 3 ? one : one + (kind % 2 == 0 ? " and " : "\nor ") + any(Math.min(opens, 2));
    }

    private static String one(int opens) {
        switch (opens > 0 ? DUE.any(3) : 2) {
            case 0: return "not " + one(opens - 1);
            case 1: return "(" + any(opens - 1) + ")";
            default: return fact();
        }
    }

    private static String fact() {
        String sign = "<>=".substring(DUE.any(3)).substring(0, 1);
        switch (DUE.any(6)) {
            case 0: return "level" + sign + DUE.any(101);
            case 1: return "age" + sign + DUE.any(4);
            case 2: return "node " + sign + DUE.any(5);
            case 3: return "trough" + sign + " " + DUE.any(2);
            case 4: return "day" + sign + "0" + DUE.any(lastDay + 1);
            default: return "cost" + sign + DUE.any(100);
        }
    }

    private static Object[] numbers(String name) {
        if (GIVEN.get(name).isEmpty()) {
            return new Object[0];
        }
        String[] kinds = GIVEN.get(name).split(" ");
        Object[] numbers = new Object[kinds.length];
        for (int i = 0; i < kinds.length; i++) {
            numbers[i] = kinds[i].equals("?") ? (Object) (DUE.any(2) == 0) : (Object) number(kinds[i]);
        }
        return numbers;
    }

    private static int number(String kind) {
        switch (kind) {
            case "parent": return from(-1, y.count(0) - 1, 24);
            case "node": return from(0, y.count(0) - 1, 24);
            case "tap": return from(0, y.count(1) - 1, 24);
            case "taps1": return from(-1, y.count(1) - 1, 24);
            case "house": return from(0, y.count(2) - 1, 30);
            case "job": return from(0, y.count(6) - 1, 40);
            case "jobs": return from(-1, y.count(6) - 1, 40);
            case "trust": return from(0, y.count(4) - 1, 5);
            case "donor": return from(0, y.count(5) - 1, 20);
            case "image": return from(0, y.count(20) - 1, 3);
            case "cell": return from(0, 255, far);
            case "ahead": return from(0, 60000, 800);
            case "loss": return from(0, 999, 20);
            case "later": return from(y.count(3) + 1, 999, 1 + lastDay / 20);
            case "past": return from(0, y.count(3), lastDay);
            case "day": return from(0, 999, lastDay);
            case "days": return from(-1, 999, lastDay);
            case "hour": return from(0, 23, 24);
            case "hundred": return from(0, 100, 100);
            case "ninetynine": return from(0, 99, 99);
            case "much": return from(0, 9999, 50);
            case "any": return DUE.any(1 << 16) << 16 | DUE.any(1 << 16);
            case "n": return DUE.any(8) > 0 ? Math.min(written, y.count(9)) : from(0, y.count(9), 500);
            case "taps": return DUE.any(2) == 0 ? (1 << 24) - 1 : from(0, (1 << 24) - 1, 100);
            case "coin": return from(0, 99999, 200);
            case "work": return from(0, 4, 5);
            case "cost": return from(1, 9999, 90);
            case "steps": return from(0, 30, 10);
            case "k": return from(-1, 5, 6);
            case "window": return from(1, 60, 20);
            case "speed": return from(1, 99, 6);
            case "hardness": return from(1, 99, 3);
            case "hours": return from(1, 24, 24);
            case "every": return from(1, 20, 8);
            case "some": return some();
            default: return from(0, Integer.parseInt(kind.substring(4)), 25);
        }
    }

    private static int some() {
        int bits = 0;
        for (int i = 0; i < 1 + DUE.any(DUE.any(6) == 0 ? 11 : 4); i++) {
            bits |= 1 << Math.max(0, from(0, y.count(1) - 1, 24));
        }
        return DUE.any(40) == 0 ? -bits : bits;
    }

    /** From the least to the most, mostly within so many of the least; now and then at an edge or beyond it. */
    private static int from(int least, int most, int many) {
        switch (DUE.any(30)) {
            case 0: return least;
            case 1: return most;
            case 2: return DUE.any(3) == 0 ? least - 1 : least;
            case 3: return DUE.any(3) == 0 ? most + 1 : most;
            case 4: return DUE.any(8) == 0 ? Integer.MIN_VALUE + DUE.any(3) : least;
            case 5: return DUE.any(8) == 0 ? Integer.MAX_VALUE - DUE.any(3) : most;
            case 6: return least + DUE.any(Math.max(1, most - least + 1));
            default: return least + DUE.any(Math.max(1, Math.min(many, most - least + 1)));
        }
    }
}
