import java.lang.reflect.InvocationTargetException;
import java.lang.reflect.Method;
import java.util.Arrays;
import java.util.Set;
import java.util.TreeSet;

/**
 * Every number that every call takes: the first and the last of its range and the ones beside them, those far beyond,
 * the least and the greatest int. What is refused answers as its promise says, and is as if it had not been asked.
 */
public final class RangeTest {
    private static final Due DUE = new Due();
    private static final int LEAST = Integer.MIN_VALUE;
    private static final int MOST = Integer.MAX_VALUE;

    /** A call of the city below, what it answers when it refuses, and its arguments: least..most:one, or one that stays. */
    private static final String[] CALLS = {
        "node -1 | -1..2:0",
        "tap -1 | 0..2:1 | 0..255:5 | 0..60000:7 | true | 0..999:3",
        "house -1 | 0..255:5",
        "course -1 | 0..255:5",
        "day 0 | 501..999:600",
        "shut -1 | 0..2:1 | 0..500:5 | true",
        "level -1 | 0..500:5 | 0..100:9",
        "bottle -1 | 0..2:1 | 0..500:5 | true",
        "test -1 | 0..2:1 | 0..500:5 | true",
        "flow -1 | 0..2:1 | 0..500:5 | 0..9999:9",
        "error 0 | 0..99:9",
        "cold 0 | 0..23:9 | 0..100:9",
        "cap -2 | 0..40:8",
        "trust -2 | 0..40:8 | 0..16777215:3 | 0..99999:9",
        "donor -2 | 0..40:3",
        "worn -2 | 0..2:1 | 0..40:3",
        "job -1 | 0..2:1 | 0..4:1 | 1..9999:9 | 0..999:9",
        "done 0 | 0..2:1 | 0..500:5",
        "runs -1 | 0..2:1 | 0..999:5 | 0..999:5",
        "covered -2 | 0..2:1 | 0..30:5 | 0..999:5 | 0..999:5",
        "thirsty -1 | 0..30:5 | 0..999:5 | 0..999:5 | -1",
        "thirsty -1 | 0 | 0..999:5 | 0..999:5 | -1..1:0",
        "mend -1 | 0..30:5 | 0..999:5 | 0..999:5 | 0..2:1",
        "germs -1 | 0..999:5 | 1..60:2 | 0..999:5",
        "lead -1 | 1..2:1 | 0..999:5",
        "drips -1 | 0..2:1 | 0..999:5 | 0..999:5 | 0..1:0",
        "pays -1 | 0..1:1 | 0..2:1",
        "payers -1 | 0..2:1 | 0..4:1 | 1..9999:9",
        "council -1 | 0..2:1",
        "late -2 | -1..2:0",
        "round -1 | 1..7:3 | 0..255:5",
        "frost -1 | 1..7:7 | 0..255:5 | 1..99:3 | 0..3:1",
        "fits -1 | 0..1:1 | -1..1:0",
        "gift -1 | 0..255:5 | 0..30:5 | 0..999:5 | 0..999:5",
        "hard 0 | 0..2:1 | 1..99:9",
        "night -1 | 0..500:5 | 0..100:9",
        "burst -1 | 0..2:1 | 0..500:5",
        "damage -1 | 0..2:1 | 0..500:5 | 0..23:9",
        "hurt -1 | 0..2:1 | 0..500:5 | 0..9999:9",
        "fill -1 | 0..2:1 | 0..500:5 | 0..9999:9",
        "cup -1 | 0..2:1 | 0..500:5 | true",
        "plant -1 | 0..1:1 | 0..500:5 | true",
        "ban 0 | -1..999:5",
        "beside -1 | 0..999:5 | 999 | 0..999:5 | 0..3:1",
        "beside -1 | 0..300:5 | 300 | 0..999:5 | 0..3:1",
        "beside -1 | 0 | 0..999:5 | 0..999:5 | 0..3:1",
        "beside -1 | 300 | 300..999:400 | 0..999:5 | 0..3:1",
        "beside -1 | 999 | 999..999:999 | 0..999:5 | 0..3:1",
        "beside -1 | 0..0:0 | 0 | 0..999:5 | 0..3:1",
        "hurts -1 | 0..999:5 | 999 | 0..999:5 | 0..2:1",
        "hurts -1 | 0..300:5 | 300 | 0..999:5 | 0..2:1",
        "hurts -1 | 0 | 0..999:5 | 0..999:5 | 0..2:1",
        "hurts -1 | 300 | 300..999:400 | 0..999:5 | 0..2:1",
        "hurts -1 | 999 | 999..999:999 | 0..999:5 | 0..2:1",
        "hurts -1 | 0..0:0 | 0 | 0..999:5 | 0..2:1",
        "filled -1 | -1..2:1 | 0..999:5 | 999 | 0..999:5",
        "filled -1 | -1..2:1 | 0..300:5 | 300 | 0..999:5",
        "filled -1 | -1..2:1 | 0 | 0..999:5 | 0..999:5",
        "filled -1 | -1..2:1 | 300 | 300..999:400 | 0..999:5",
        "filled -1 | -1..2:1 | 999 | 999..999:999 | 0..999:5",
        "filled -1 | -1..2:1 | 0..0:0 | 0 | 0..999:5",
        "busiest -1 | 0..999:5 | 999 | 0..999:5 | 0..2:1",
        "busiest -1 | 0..300:5 | 300 | 0..999:5 | 0..2:1",
        "busiest -1 | 0 | 0..999:5 | 0..999:5 | 0..2:1",
        "busiest -1 | 300 | 300..999:400 | 0..999:5 | 0..2:1",
        "busiest -1 | 999 | 999..999:999 | 0..999:5 | 0..2:1",
        "busiest -1 | 0..0:0 | 0 | 0..999:5 | 0..2:1",
        "wears -1 | 0..2:1 | 0..999:5",
        "gone -1 | 0..2:1",
        "horse -1 | 0..255:5 | 5 | 30 | 0..999:5 | 0..999:5",
        "horse -1 | 250 | 0..255:250 | 30 | 0..999:5 | 0..999:5",
        "horse -1 | 5 | 5 | 0..30:3 | 0..999:5 | 0..999:5",
        "stations -1 | 1..20:1 | 0..30:0 | 0..999:5 | 0..999:5 | 0",
        "stations -1 | 1 | 0..30:0 | 0..999:5 | 0..999:5 | 0..3:0",
        "watch -1 | 1..24:5 | 0..999:5 | 0..1:1",
        "banned -1 | 0..999:5 | 0..999:5 | -1..1:0",
        "could -1 | 0..1:1 | 0..1:1",
        "remembers -2 | 0..1:1",
        "back 0 | 0..0:0",
        "count -1 | 0..11:1",
        "count -1 | 20..24:21"};

    public static void main(String[] args) throws Exception {
        cityItself();
        for (String call : CALLS) {
            oneByOne(call);
            together(call);
        }
        DUE.end("RangeTest");
    }

    /** Today is 500; most was told on day 0, so that every day from 0 on knows it. */
    private static CityCups city() {
        CityCups x = new CityCups();
        x.node(-1);
        x.node(0);
        x.node(1);
        x.tap(0, 5, 100, true, 7);
        x.tap(1, 40, 0, true, 8);
        x.tap(2, 5, 359, false, 9);
        x.house(5);
        x.house(250);
        x.house(200);
        for (int i = 0; i < 3; i++) {
            x.course(5);
            x.hard(i, 1);
            x.flow(i, 0, 100 - 10 * i);
        }
        x.cold(0, 3);
        x.cold(9, 50);
        x.cold(23, 90);
        x.bottle(2, 0, true);
        x.cup(0, 0, true);
        x.cup(2, 0, true);
        x.ban(0);
        x.error(3);
        x.shut(1, 0, true);
        x.level(0, 60);
        Due.cap(x, "cap if level<10;");
        Due.trust(x, "pay any;", 7, 50);
        Due.trust(x, "pay pipe;", 7, 60);
        Due.donor(x, "ab");
        Due.donor(x, "ac");
        Due.worn(x, 0, "a.");
        Due.worn(x, 1, "ab");
        Due.worn(x, 1, "a.");
        x.job(0, 2, 20, 3);
        x.job(1, 1, 30, 4);
        x.job(2, 1, 40, 700);
        x.image();
        x.day(500);
        x.burst(1, 3);
        x.night(3, 40);
        x.damage(1, 3, 23);
        x.hurt(0, 3, 70);
        x.fill(1, 3, 44);
        x.feed(0x61626364, 0x65666768, 0x696A6B6C, 0x6D6E6F70, 0x71727374);
        x.feed(0x61626364, 0x65666768, 0x696A6B6C, 0x6D6E6F70, 0x71727374);
        return x;
    }

    /** The city is as the rows of the calls need it, so that no answer is by chance the one of a refusal. */
    private static void cityItself() {
        DUE.is("two cities are alike" + Look.unlike(city(), city()), Look.unlike(city(), city()).isEmpty(), true);
        CityCups other = city();
        other.cold(8, 1);
        DUE.is("another city is not", Look.unlike(city(), other).isEmpty(), false);
        CityCups x = city();
        DUE.is("the tape", x.count(9), 40);
        DUE.is("today", x.count(3), 500);
        DUE.is("thirsty at 0 steps", x.thirsty(0, 5, 5, -1), 2);
        DUE.is("thirsty at 0 steps on day 0", x.thirsty(0, 0, 0, -1), 2);
        DUE.is("banned", x.banned(5, 5, -1), 2);
        DUE.is("fits", x.fits(1, -1), 2);
    }

    private static final class Call {
        final String name;
        final int refusal;
        final int[] least;
        final int[] most;
        final int[] one;
        final boolean[] stays;
        final Method method;

        Call(String row) {
            String[] parts = row.split(" \\| ");
            name = parts[0].split(" ")[0];
            refusal = Integer.parseInt(parts[0].split(" ")[1]);
            method = Arrays.stream(CityCups.class.getDeclaredMethods())
                    .filter(m -> m.getName().equals(name)).findFirst().orElseThrow();
            int many = parts.length - 1;
            least = new int[many];
            most = new int[many];
            one = new int[many];
            stays = new boolean[many];
            for (int i = 0; i < many; i++) {
                String part = parts[i + 1].trim();
                String fixed = part.equals("true") ? "1" : part;
                String[] numbers = part.contains("..") ? part.split("\\.\\.|:") : new String[] {fixed, fixed, fixed};
                stays[i] = !part.contains("..");
                least[i] = Integer.parseInt(numbers[0]);
                most[i] = Integer.parseInt(numbers[1]);
                one[i] = Integer.parseInt(numbers[2]);
            }
        }

        boolean isNumber(int i) {
            return method.getParameterTypes()[i] == int.class;
        }

        int ask(CityCups x, int[] numbers) throws Exception {
            Object[] given = new Object[numbers.length];
            for (int i = 0; i < numbers.length; i++) {
                given[i] = isNumber(i) ? (Object) numbers[i] : (Object) (numbers[i] == 1);
            }
            try {
                Object answer = method.invoke(x, given);
                return answer instanceof Boolean ? (Boolean) answer ? 1 : 0 : (Integer) answer;
            } catch (InvocationTargetException thrown) {
                System.out.println(name + Arrays.toString(numbers) + " threw " + thrown.getCause());
                return MOST;
            }
        }

        void refuses(int[] numbers) throws Exception {
            String told = name + Arrays.toString(numbers);
            CityCups x = city();
            DUE.is(told, ask(x, numbers), refusal);
            String unlike = Look.unlike(x, city());
            DUE.is(told + " does nothing, but" + unlike, unlike.isEmpty(), true);
        }

        void takes(int[] numbers) throws Exception {
            int answer = ask(city(), numbers);
            DUE.is(name + Arrays.toString(numbers) + " is taken, not " + answer, answer == refusal, false);
        }
    }

    private static Set<Integer> beyond(int least, int most, int one) {
        Set<Integer> numbers = new TreeSet<>();
        int[] off = {1, 2, 8, 16, 24, 31, 32, 64, 100, 256, 1000, 65536, 1 << 24, 1 << 30};
        for (int by : off) {
            numbers.addAll(Set.of(least - by, most + by));
            numbers.add(one + by);
            numbers.add(one - by);
        }
        numbers.addAll(Set.of(LEAST, LEAST + 1, LEAST + 2, MOST, MOST - 1, MOST - 2));
        numbers.add(one ^ LEAST);
        numbers.add(least ^ LEAST);
        numbers.removeIf(n -> least <= n && n <= most);
        return numbers;
    }

    /** One argument is beyond or at the edge, all others are as they may be. */
    private static void oneByOne(String row) throws Exception {
        Call call = new Call(row);
        for (int i = 0; i < call.one.length; i++) {
            if (call.stays[i]) {
                continue;
            }
            for (int number : beyond(call.least[i], call.most[i], call.one[i])) {
                // What count() is asked has a gap in it: beyond the one row's range may be in the other's.
                boolean other = number >= 0 && number <= 11 || number >= 20 && number <= 24;
                if (!other || !call.name.equals("count")) {
                    int[] numbers = call.one.clone();
                    numbers[i] = number;
                    call.refuses(numbers);
                }
            }
            int[] taken = {call.least[i], Math.min(call.most[i], call.least[i] + 1), Math.max(call.least[i],
                call.most[i] - 1), call.most[i]};
            for (int number : taken) {
                int[] numbers = call.one.clone();
                numbers[i] = number;
                call.takes(numbers);
            }
        }
    }

    /** All arguments at the edges: taken; all far beyond, on any side: refused. */
    private static void together(String row) throws Exception {
        Call call = new Call(row);
        int many = call.one.length;
        // The rows in which an argument's range hangs on another argument.
        if (!call.name.equals("frost") && !row.startsWith("thirsty -1 | 0 ")) {
            for (int sides = 0; sides < 1 << many; sides++) {
                int[] numbers = new int[many];
                for (int i = 0; i < many; i++) {
                    numbers[i] = (sides >> i & 1) == 0 ? call.least[i] : call.most[i];
                }
                call.takes(numbers);
            }
        }
        for (int sides = 0; sides < 1 << many; sides++) {
            int[] numbers = new int[many];
            for (int i = 0; i < many; i++) {
                numbers[i] = !call.isNumber(i) ? 1 : (sides >> i & 1) == 0 ? LEAST : MOST;
            }
            call.refuses(numbers);
        }
    }
}
