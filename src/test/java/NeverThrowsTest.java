import java.lang.reflect.InvocationTargetException;
import java.lang.reflect.Method;
import java.lang.reflect.Modifier;
import java.util.Arrays;
import java.util.Comparator;

/** Any calls with any numbers: none throws, and the same calls always give the same answers. */
public final class NeverThrowsTest {
    private static final Due DUE = new Due();
    private static final String[] TEXTS = {"cap if level<50 and not (age>3 or node=1);", "spare;cap if day>5;",
        "pay any;", "pay tap if cost<50;refuse pipe;pay any if trough=1;", "abc", "a.c", "...", "ab", "x", "cap if"};

    public static void main(String[] args) throws Exception {
        Method[] methods = Arrays.stream(CityCups.class.getDeclaredMethods())
                .filter(m -> Modifier.isPublic(m.getModifiers()))
                .sorted(Comparator.comparing(Method::getName)).toArray(Method[]::new);
        DUE.is("methods of the face", methods.length, 60);
        for (int run = 0; run < 400; run++) {
            CityCups x = new CityCups();
            CityCups twin = new CityCups();
            for (int call = 0; call < 505; call++) {
                Method method = methods[DUE.any(methods.length)];
                if (DUE.any(6) == 0) {
                    String text = TEXTS[DUE.any(TEXTS.length)];
                    Due.put(x, text);
                    Due.put(twin, text);
                    call += Due.feeds(text).length;
                }
                Object[] given = arguments(method, call, run);
                DUE.is(method.getName() + Arrays.toString(given), number(method, x, given), number(method, twin, given));
            }
        }
        allFull();
        DUE.end("NeverThrowsTest");
    }

    /** As many of each as there can be, so that a row's end is where the questions look. */
    private static void allFull() {
        CityCups x = new CityCups();
        for (int i = 0; i < 30; i++) {
            x.node(Math.min(i, 24) - 1);
            x.tap(Math.min(i, 23), i, 0, true, 1);
            x.house(i);
            x.course(i);
        }
        for (int i = 0; i < 80; i++) {
            x.shut(i % 24, 0, i % 2 == 0);
            x.test(i % 24, 0, true);
            x.night(0, 1);
            x.job(i % 24, 2, 1, 0);
        }
        DUE.is("expected", x.beside(0, 999, 999, 2), 12);
        DUE.is("lead", x.lead(23, 0), 2);
        DUE.is("late", x.late(-1), 0);
        DUE.is("gone", x.gone(23), -1);
        DUE.is("wears", x.wears(23, 999), 5);
        DUE.is("council", x.council(0), 6);
        DUE.is("done", x.count(7), 0);
        DUE.is("paid", x.count(8), 0);
        DUE.is("thirsty", x.thirsty(0, 0, 0, -1), 18);
        DUE.is("mend", x.mend(0, 0, 0, 2), 6);
        DUE.is("horse", x.horse(0, 255, 1, 0, 0), -1);
        DUE.is("stations", x.stations(1, 1, 0, 0, 0), 20);
        DUE.is("the last house", x.covered(29, 30, 0, 0) >= 0, true);
        CityCups y = Due.withTaps(24);
        for (int i = 0; i < 80; i++) {
            y.fill(23, 0, 1);
            y.burst(i % 24, 0);
            y.hurt(i % 24, 0, 1);
            y.damage(23, 0, 23);
            y.cup(i % 24, 0, true);
        }
        y.ban(0);
        DUE.is("filled", y.filled(-1, 0, 0, 0), 80);
        DUE.is("busiest", y.busiest(0, 0, 0, 23), 22);
        DUE.is("bursts", y.beside(0, 0, 0, 0), 40);
        DUE.is("hurts", y.hurts(0, 0, 0, 2), 0);
        DUE.is("watch", y.watch(1, 0, 1), 40);
        DUE.is("banned", y.banned(0, 0, 23), 23);
        DUE.is("round", y.round(255 << 16, 0), 0);
    }

    private static Object[] arguments(Method method, int call, int run) {
        Class<?>[] types = method.getParameterTypes();
        Object[] given = new Object[types.length];
        for (int i = 0; i < types.length; i++) {
            given[i] = types[i] == boolean.class ? (Object) (DUE.any(2) == 0) : (Object) argument(call, run);
        }
        return given;
    }

    /** Mostly small, so that much is taken; now and then at an edge, or far beyond all. */
    private static int argument(int call, int run) {
        switch (DUE.any(run % 2 == 0 ? 12 : 40)) {
            case 0: return -1;
            case 1: return DUE.any(1024);
            case 2: return DUE.any(1 << 24);
            case 3: return Integer.MAX_VALUE - DUE.any(2);
            case 4: return Integer.MIN_VALUE + DUE.any(2);
            case 5: return DUE.any(256);
            case 6: return -2 - DUE.any(100);
            default: return DUE.any(call < 200 ? 3 : 25);
        }
    }

    private static long number(Method method, CityCups x, Object[] given) throws Exception {
        try {
            Object answer = method.invoke(x, given);
            if (answer instanceof Boolean) {
                return (Boolean) answer ? 1 : 0;
            }
            return (Integer) answer;
        } catch (InvocationTargetException thrown) {
            System.out.println(method.getName() + Arrays.toString(given) + " threw " + thrown.getCause());
            System.exit(1);
            return 0;
        }
    }
}
