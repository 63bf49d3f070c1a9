import java.lang.reflect.InvocationTargetException;
import java.lang.reflect.Method;
import java.lang.reflect.Modifier;
import java.util.Arrays;
import java.util.Comparator;

/** Any calls with any numbers: none throws, and the same calls always give the same answers. */
public final class NeverThrowsTest {
    private static final Due DUE = new Due();
    private static final String[] TEXTS = {"cap if level<50 and not (age>3 or node=1);", "spare;cap if day>5;",
        "pay any;", "pay tap if cost<50;refuse pipe;pay any if trough=1;", "abc", "a.c", "...", "ab", "x", "cap if"};

    public static void main(String[] args) throws Exception {
        Method[] methods = Arrays.stream(CityCups.class.getDeclaredMethods())
                .filter(m -> Modifier.isPublic(m.getModifiers()))
                .sorted(Comparator.comparing(Method::getName)).toArray(Method[]::new);
        DUE.is("methods of the face", methods.length, 60);
        for (int run = 0; run < 400; run++) {
            CityCups x = new CityCups();
            CityCups twin = new CityCups();
            for (int call = 0; call < 512; call++) {
                Method method = methods[DUE.any(methods.length)];
                if (DUE.any(6) == 0) {
                    String text = TEXTS[DUE.any(TEXTS.length)];
                    Due.put(x, text);
                    Due.put(twin, text);
                }
                Object[] given = arguments(method, call, run);
                DUE.is(method.getName() + Arrays.toString(given), number(method, x, given), number(method, twin, given));
            }
        }
        DUE.end("NeverThrowsTest");
    }

    private static Object[] arguments(Method method, int call, int run) {
        Class<?>[] types = method.getParameterTypes();
        Object[] given = new Object[types.length];
        for (int i = 0; i < types.length; i++) {
            given[i] = types[i] == boolean.class ? (Object) (DUE.any(2) == 0) : (Object) argument(call, run);
        }
        return given;
    }

    /** Mostly small, so that much is taken; now and then at an edge, or far beyond all. */
    private static int argument(int call, int run) {
        switch (DUE.any(run % 2 == 0 ? 12 : 40)) {
            case 0: return -1;
            case 1: return DUE.any(1024);
            case 2: return DUE.any(1 << 24);
            case 3: return Integer.MAX_VALUE - DUE.any(2);
            case 4: return Integer.MIN_VALUE + DUE.any(2);
            case 5: return DUE.any(256);
            case 6: return -2 - DUE.any(100);
            default: return DUE.any(call < 200 ? 3 : 25);
        }
    }

    private static long number(Method method, CityCups x, Object[] given) throws Exception {
        try {
            Object answer = method.invoke(x, given);
            if (answer instanceof Boolean) {
                return (Boolean) answer ? 1 : 0;
            }
            return (Integer) answer;
        } catch (InvocationTargetException thrown) {
            System.out.println(method.getName() + Arrays.toString(given) + " threw " + thrown.getCause());
            System.exit(1);
            return 0;
        }
    }
}
