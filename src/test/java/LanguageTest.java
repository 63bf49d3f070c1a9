import java.io.IOException;
import java.lang.reflect.Constructor;
import java.lang.reflect.Executable;
import java.lang.reflect.Field;
import java.lang.reflect.Method;
import java.lang.reflect.Modifier;
import java.nio.file.Files;
import java.nio.file.Path;
import java.util.ArrayList;
import java.util.List;
import java.util.Map;
import java.util.Set;
import java.util.TreeMap;
import java.util.TreeSet;
import java.util.regex.Matcher;
import java.util.regex.Pattern;

/** The face of the document, and what of LANGUAGE.md can be seen in the class and in its text. */
public final class LanguageTest {
    private static final Due DUE = new Due();

    public static void main(String[] args) throws IOException {
        face();
        List<Class<?>> classes = new ArrayList<>(List.of(CityCups.class));
        classes.addAll(List.of(CityCups.class.getDeclaredClasses()));
        DUE.is("twelve classes at most", classes.size() <= 12, true);
        for (Class<?> c : classes) {
            members(c);
        }
        text(Files.readString(Path.of("src/main/java/CityCups.java")));
        DUE.end("LanguageTest");
    }

    /** Every line of the document's face is there, and nothing else is public. */
    private static void face() throws IOException {
        String doc = Files.readString(Path.of("../shared/DOC.md"));
        Matcher line = Pattern.compile("    public (int|boolean) (\\w+)\\((.*)\\);").matcher(doc);
        Set<String> due = new TreeSet<>();
        while (line.find()) {
            due.add(line.group(1) + " " + line.group(2) + "(" + line.group(3).replaceAll(" \\w+(,|$)", "$1") + ")");
        }
        DUE.is("methods in the document", due.size(), 60);
        Set<String> there = new TreeSet<>();
        for (Method m : CityCups.class.getDeclaredMethods()) {
            if (!Modifier.isPrivate(m.getModifiers())) {
                String types = List.of(m.getParameterTypes()).toString().replaceAll("[\\[\\]]", "");
                there.add(m.getReturnType() + " " + m.getName() + "(" + types + ")");
            }
        }
        DUE.is("the face is " + there, there.equals(due), true);
        for (Field f : CityCups.class.getDeclaredFields()) {
            DUE.is("field " + f.getName(), Modifier.isPrivate(f.getModifiers()) || f.getName().equals("NONE"), true);
        }
        DUE.is("final", Modifier.isFinal(CityCups.class.getModifiers()), true);
        DUE.is("constructors", CityCups.class.getDeclaredConstructors().length, 1);
    }

    private static void members(Class<?> c) {
        boolean nested = c != CityCups.class;
        DUE.is(c + " is static", !nested || Modifier.isStatic(c.getModifiers()), true);
        DUE.is(c + " has no class inside", !nested || c.getDeclaredClasses().length == 0, true);
        int fields = 0;
        for (Field f : c.getDeclaredFields()) {
            boolean fixed = Modifier.isStatic(f.getModifiers());
            DUE.is(f + " is final", !fixed || Modifier.isFinal(f.getModifiers()), true);
            fields += fixed ? 0 : 1;
        }
        DUE.is(c + " has twenty fields at most", fields <= 20, true);
        Set<String> face = new TreeSet<>();
        for (Method m : CityCups.class.getDeclaredMethods()) {
            if (Modifier.isPublic(m.getModifiers())) {
                face.add(m.getName());
            }
        }
        for (Method m : c.getDeclaredMethods()) {
            boolean own = nested || !Modifier.isPublic(m.getModifiers());
            DUE.is(m + " bears no name of the face", !own || !face.contains(m.getName()), true);
            parameters(m);
        }
        for (Constructor<?> made : c.getDeclaredConstructors()) {
            parameters(made);
        }
    }

    private static void parameters(Executable e) {
        DUE.is(e + " takes seven at most", e.getParameterCount() <= 7, true);
    }

    private static void text(String source) {
        String code = source.replaceAll("(?s)/\\*.*?\\*/", "").replaceAll("//[^\\n]*", "");
        String[] forbidden = {"\\bthrow", "\\btry\\b", "\\bcatch\\b", "\\bfinally\\b", "\\bsynchronized\\b",
            "\\bassert\\b", "->", "::", "Exact\\b", "\\bstatic \\{", "\\bpackage\\b", "\"\\s*\\+", "\\+\\s*\"",
            "\\bvar\\b", "\\bvolatile\\b", "\\bdouble\\b", "\\bfloat\\b", "\\bObject\\b", "\\bSystem\\.(?!arraycopy)",
            "[^\\x00-\\x7F]", "hashCode", "toString", "equals", "\\bInteger\\.(?!bitCount)", "\\bMath\\.(?!max|min|abs|floorMod)",
            "\\bArrays\\.(?!copyOf|fill)", "\\bRandom\\b", "\\bThread\\b"};
        for (String word : forbidden) {
            DUE.is("nothing of " + word, Pattern.compile(word).matcher(code).find(), false);
        }
        Matcher imports = Pattern.compile("import ([^;]+);").matcher(code);
        while (imports.find()) {
            DUE.is("import " + imports.group(1), imports.group(1).equals("java.util.Arrays"), true);
        }
        Matcher method = Pattern.compile("(?m)^( {4}| {8})\\S[^;={]*\\([^;{]*\\{\\n(.*\\n)*?\\1\\}$").matcher(code);
        Map<String, String> bodies = new TreeMap<>();
        while (method.find()) {
            String head = method.group().lines().findFirst().orElse("");
            DUE.is("sixty lines at most: " + head, method.group().lines().count() <= 60, true);
            // Methods that share a name stand as one here: paths may be told too long, none too short.
            String body = method.group().substring(head.length()).replaceAll("\\b(Arrays|Math|Integer|System)\\.\\w+", "");
            bodies.merge(head.replaceAll("\\(.*", "").replaceAll(".*\\W", ""), body, String::concat);
        }
        DUE.is("methods were found", bodies.size() > 100, true);
        depth(bodies);
        logic(code);
    }

    /** Not more than eight calls are open, none of them twice: a recursion's first round is in. */
    private static void depth(Map<String, String> bodies) {
        Map<String, List<String>> calls = new TreeMap<>();
        for (Map.Entry<String, String> one : bodies.entrySet()) {
            List<String> called = new ArrayList<>();
            Matcher call = Pattern.compile("\\b(\\w+)\\(").matcher(one.getValue());
            while (call.find()) {
                if (bodies.containsKey(call.group(1))) {
                    called.add(call.group(1));
                }
            }
            calls.put(one.getKey(), called);
        }
        int deepest = 0;
        for (String name : bodies.keySet()) {
            int deep = deepest(name, calls, new ArrayList<>());
            deepest = Math.max(deepest, deep);
            DUE.is("eight deep at most: " + name + " goes " + deep, deep <= 8, true);
        }
        DUE.is("calls were found", deepest >= 5, true);
    }

    private static int deepest(String name, Map<String, List<String>> calls, List<String> open) {
        if (open.contains(name)) {
            return 0;
        }
        open.add(name);
        int most = 0;
        for (String called : calls.get(name)) {
            most = Math.max(most, deepest(called, calls, open));
        }
        open.remove(name);
        return most + 1;
    }

    /** Of what is true or false there are && and || alone; masks are for numbers. */
    private static void logic(String code) {
        Matcher flag = Pattern.compile("\\bboolean (\\w+)\\b(?!\\()").matcher(code);
        while (flag.find()) {
            boolean masked = Pattern.compile("\\b" + flag.group(1) + " [|&^]=? ").matcher(code).find();
            DUE.is("no mask of " + flag.group(1), masked, false);
        }
    }
}
