import java.lang.reflect.InvocationTargetException;
import java.lang.reflect.Method;
import java.lang.reflect.Modifier;
import java.util.Arrays;
import java.util.Comparator;

/**
 * Every call with the least and the greatest int, and the small numbers beside 0, in every mixture of its arguments:
 * nothing throws, and all is answered as the plain words say, where a sum or a product would wrap around, too.
 */
public final class ExtremeTest {
    private static final Due DUE = new Due();
    private static final int[] NUMBERS = {Integer.MIN_VALUE, -1, 0, 1, Integer.MAX_VALUE};
    private static final int[] MORE = {Integer.MIN_VALUE + 1, -2, 2, 32, 999, Integer.MAX_VALUE - 1, 1 << 24, 1 << 30};

    private static CityCups x;
    private static Plain y;
    private static int calls;

    public static void main(String[] args) throws Exception {
        Method[] methods = Arrays.stream(CityCups.class.getDeclaredMethods())
                .filter(m -> Modifier.isPublic(m.getModifiers()))
                .sorted(Comparator.comparing(Method::getName)).toArray(Method[]::new);
        DUE.is("methods of the face", methods.length, 60);
        for (Method method : methods) {
            mixtures(method, NUMBERS);
            if (method.getParameterCount() <= 3) {
                mixtures(method, MORE);
            }
        }
        DUE.end("ExtremeTest");
    }

    private static void mixtures(Method method, int[] numbers) throws Exception {
        Method plain = Plain.class.getDeclaredMethod(method.getName(), method.getParameterTypes());
        int many = method.getParameterCount();
        int mixtures = (int) Math.pow(numbers.length, many);
        calls = 1000;
        for (int mixture = 0; mixture < mixtures; mixture++) {
            // Few enough calls for one object, and a city that isn't full.
            if (calls > 30) {
                x = new CityCups();
                y = new Plain();
                city();
                calls = 0;
            }
            Object[] given = new Object[many];
            for (int i = 0, rest = mixture; i < many; i++, rest /= numbers.length) {
                int number = numbers[rest % numbers.length];
                given[i] = method.getParameterTypes()[i] == boolean.class ? (Object) (number > 0) : (Object) number;
            }
            String name = method.getName() + Arrays.toString(given);
            DUE.is(name, ask(method, x, given), ask(plain, y, given));
            for (int what = 0; what <= 24; what += 3) {
                DUE.is("count(" + what + ") after " + name, x.count(what), y.count(what));
            }
            DUE.is("fault() after " + name, x.fault(), y.fault());
            calls++;
        }
    }

    private static long ask(Method method, Object object, Object[] given) throws Exception {
        try {
            Object answer = method.invoke(object, given);
            return answer instanceof Boolean ? (Boolean) answer ? 1 : 0 : (Integer) answer;
        } catch (InvocationTargetException thrown) {
            System.out.println(method.getName() + Arrays.toString(given) + " threw " + thrown.getCause());
            return Long.MIN_VALUE;
        }
    }

    private static void city() throws Exception {
        for (int i = 0; i < 3; i++) {
            same("node", i - 1);
            same("tap", i, i * 100, i * 300, i < 2, i);
            same("house", i * 90);
            same("course", i);
            same("job", i, 2, 5 + i, 1);
        }
        same("feed", 0x61622020, 0x20202020, 0x20202020, 0x20202020, 0x20202020);
        same("donor", 2);
        same("feed", 0x612E2020, 0x20202020, 0x20202020, 0x20202020, 0x20202020);
        same("worn", 1, 2);
        same("feed", 0x70617920, 0x616E793B, 0x20202020, 0x20202020, 0x20202020);
        same("trust", 9, 7, 6);
        same("shut", 1, 0, true);
        same("bottle", 2, 0, true);
        same("test", 2, 0, true);
        same("flow", 0, 0, 70);
        same("flow", 1, 0, 60);
        same("night", 0, 40);
        same("burst", 1, 0);
        same("damage", 1, 0, 1);
        same("hurt", 2, 0, 9);
        same("fill", 1, 0, 9);
        same("cup", 1, 0, true);
        same("ban", 0);
        same("cold", 1, 7);
        same("image");
        same("day", 1);
        same("feed", 0x6361703B, 0x20202020, 0x6361703B, 0, 0);
    }

    private static void same(String name, Object... given) throws Exception {
        for (Method method : CityCups.class.getDeclaredMethods()) {
            if (method.getName().equals(name) && Modifier.isPublic(method.getModifiers())) {
                Method plain = Plain.class.getDeclaredMethod(name, method.getParameterTypes());
                DUE.is(name + Arrays.toString(given), ask(method, x, given), ask(plain, y, given));
            }
        }
    }
}
