import java.io.IOException;
import java.lang.reflect.Method;
import java.net.URL;
import java.net.URLClassLoader;
import java.nio.file.Files;
import java.nio.file.Path;
import java.util.ArrayList;
import java.util.Comparator;
import java.util.List;
import java.util.Map;
import java.util.Set;
import java.util.TreeMap;
import java.util.TreeSet;
import java.util.regex.Matcher;
import java.util.regex.Pattern;
import java.util.stream.Stream;

/** README.md: its program answers as it says; its tables tell every call, what it takes and where it's refused. */
public final class ReadmeTest {
    private static final Due DUE = new Due();
    private static final int TODAY = 5;

    private static final int NOT_COMPILED = 999;

    /** What each argument is in a call that is taken, in the city below. */
    private static final Map<String, Integer> USUAL = Map.ofEntries(Map.entry("parent", 0), Map.entry("node", 1),
        Map.entry("cell", 35), Map.entry("ahead", 7), Map.entry("loss", 9), Map.entry("tap", 0), Map.entry("v", 9),
        Map.entry("d", 6), Map.entry("day", 3), Map.entry("known", 5), Map.entry("high", 50), Map.entry("much", 9),
        Map.entry("chance", 9), Map.entry("hour", 9), Map.entry("coin", 9), Map.entry("bottles", 9),
        Map.entry("n", 0), Map.entry("taps", 3), Map.entry("job", 0), Map.entry("work", 2), Map.entry("cost", 9),
        Map.entry("promised", 9), Map.entry("trust", 0), Map.entry("house", 0), Map.entry("steps", 3),
        Map.entry("window", 9), Map.entry("speed", 9), Map.entry("from", 0), Map.entry("to", 999),
        Map.entry("most", 30), Map.entry("every", 1), Map.entry("near", 30), Map.entry("k", -1),
        Map.entry("donor", 0), Map.entry("hours", 9), Map.entry("image", 0), Map.entry("what", 0));

    /** How many there are of what has numbers. */
    private static final Map<String, Integer> THERE = Map.of("parent", 3, "node", 3, "tap", 2, "house", 1, "job", 1,
        "trust", 1, "donor", 2, "image", 1);

    public static void main(String[] args) throws Exception {
        String readme = Files.readString(Path.of("README.md"));
        program(readme);
        List<Row> rows = rows(readme);
        face(rows);
        Map<String, int[]> everywhere = new TreeMap<>();
        Matcher line = Pattern.compile("(?m)^\\| (`\\w+` .*? to .*?) \\| .* \\|$").matcher(readme);
        while (line.find()) {
            everywhere.putAll(ranges(line.group(1)));
        }
        DUE.is("ranges that hold everywhere", everywhere.size(), 6);
        for (Row row : rows) {
            row.numbersAtTheirEnds(everywhere);
            row.thingsThatAreNotThere();
            row.asManyAsItSays();
        }
        DUE.end("ReadmeTest");
    }

    private static CityCups city() {
        CityCups x = new CityCups();
        for (int node = 0; node < 3; node++) {
            x.node(node - 1);
            x.flow(node, 0, 9);
        }
        x.tap(1, 35, 50000, true, 3);
        x.tap(2, 36, 50000, true, 3);
        x.house(35);
        x.course(35);
        x.day(TODAY);
        x.trust(0, 3, 500);
        x.job(0, 2, 9, 9);
        Due.donor(x, "anna");
        Due.donor(x, "otto");
        Due.worn(x, 0, "a..a");
        Due.worn(x, 1, "o..o");
        x.image();
        Due.put(x, "anna");
        return x;
    }

    /** The blocks of Java, as one program: each call answers what stands behind it. */
    private static void program(String readme) throws Exception {
        StringBuilder members = new StringBuilder();
        StringBuilder body = new StringBuilder();
        Matcher block = Pattern.compile("(?s)```java\\n(.*?)```").matcher(readme);
        int answers = 0;
        while (block.find()) {
            if (block.group(1).contains("static ")) {
                members.append(block.group(1));
                continue;
            }
            for (String row : block.group(1).split("\n")) {
                Matcher call = Pattern.compile("(?:int (\\w+) = )?(x\\..*);\\s+// (-?\\d+|true|false)\\b.*").matcher(row);
                if (!call.matches()) {
                    DUE.is("a row without an answer: " + row, row.startsWith("CityCups x = "), true);
                    body.append(row).append('\n');
                    continue;
                }
                answers++;
                String asked = call.group(1) == null ? call.group(2) : call.group(1);
                body.append(call.group(1) == null ? "" : "int " + call.group(1) + " = " + call.group(2) + ";\n");
                body.append("if (").append(asked).append(" != ").append(call.group(3)).append(") { wrong++; }\n");
            }
        }
        DUE.is("answers in the program", answers >= 18, true);
        DUE.is("wrong answers in the program", wrongIn("public class Page {\n" + members + "public static int wrong() {\n"
            + "int wrong = 0;\n" + body + "return wrong;\n}\n}\n"), 0);
    }

    private static int wrongIn(String source) throws Exception {
        Path out = Files.createTempDirectory("page");
        try {
            Path file = out.resolve("Page.java");
            Files.writeString(file, source);
            int failed = new ProcessBuilder("javac", "-classpath", System.getProperty("java.class.path"), "-d",
                out.toString(), file.toString()).inheritIO().start().waitFor();
            if (failed != 0) {
                return NOT_COMPILED;
            }
            try (URLClassLoader loader = new URLClassLoader(new URL[] {out.toUri().toURL()})) {
                return (Integer) loader.loadClass("Page").getMethod("wrong").invoke(null);
            }
        } finally {
            remove(out);
        }
    }

    private static void remove(Path directory) throws IOException {
        try (Stream<Path> all = Files.walk(directory)) {
            for (Path one : all.sorted(Comparator.reverseOrder()).toList()) {
                Files.delete(one);
            }
        }
    }

    private static List<Row> rows(String readme) {
        List<Row> rows = new ArrayList<>();
        for (String line : readme.split("\n")) {
            if (line.startsWith("| `") && line.contains("(")) {
                String[] cells = line.split("\\|");
                if (cells.length == 5) {
                    rows.add(new Row(cells));
                }
            }
        }
        return rows;
    }

    /** Every call of the document's face stands in one row, with the names that its arguments have there. */
    private static void face(List<Row> rows) throws IOException {
        Set<String> due = new TreeSet<>();
        Matcher line = Pattern.compile("    public (?:int|boolean) (\\w+)\\((.*)\\);").matcher(
            Files.readString(Path.of("../shared/DOC.md")));
        while (line.find()) {
            due.add(line.group(1) + "(" + line.group(2).replaceAll("\\b(int|boolean) ", "") + ")");
        }
        Set<String> told = new TreeSet<>();
        for (Row row : rows) {
            DUE.is(row.call + " stands in one row", told.add(row.call), true);
        }
        DUE.is("calls that the document has", due.size(), 60);
        DUE.is("README tells " + told, told.equals(due), true);
    }

    /** Each "`name` 3 to 7" in a cell; TODAY is a number, too. */
    private static Map<String, int[]> ranges(String cell) {
        Map<String, int[]> found = new TreeMap<>();
        Matcher range = Pattern.compile("`(\\w+)` (\\d+) to (\\d+|TODAY)").matcher(cell);
        while (range.find()) {
            int most = range.group(3).equals("TODAY") ? TODAY : Integer.parseInt(range.group(3));
            found.put(range.group(1), new int[] {Integer.parseInt(range.group(2)), most});
        }
        return found;
    }

    /** One call: its row's cells, and the call itself in a city of its own. */
    private static final class Row {
        final String call;
        final String takes;
        final String answers;
        final String refused;
        final String name;
        final String[] names;
        Method method;

        Row(String[] cells) {
            call = cells[1].trim().replace("`", "");
            takes = cells[2];
            answers = cells[3];
            refused = cells[4];
            name = call.substring(0, call.indexOf('('));
            String inside = call.substring(call.indexOf('(') + 1, call.indexOf(')'));
            names = inside.isEmpty() ? new String[0] : inside.split(", ");
            for (Method m : CityCups.class.getDeclaredMethods()) {
                method = m.getName().equals(name) && m.getParameterCount() == names.length ? m : method;
            }
        }

        private int usual(String argument) {
            boolean isName = name.equals("donor") || name.equals("worn");
            boolean isWay = name.equals("horse") && (argument.equals("from") || argument.equals("to"));
            boolean isPlace = name.equals("busiest") && argument.equals("k");
            return isName && argument.equals("n") ? 4 : isWay ? 35 : isPlace ? 0 : USUAL.getOrDefault(argument, 0);
        }

        /** The answer, as it stands in the tables. */
        String ask(CityCups x, String changed, int number) throws Exception {
            Object[] given = new Object[names.length];
            for (int i = 0; i < names.length; i++) {
                boolean flag = method.getParameterTypes()[i] == boolean.class;
                given[i] = flag ? (Object) true : (Object) (names[i].equals(changed) ? number : usual(names[i]));
            }
            return "`" + method.invoke(x, given) + "`";
        }

        private void is(String changed, int number, boolean taken) throws Exception {
            String answer = ask(city(), changed, number);
            DUE.is(call + " with " + changed + " = " + number + " answered " + answer + ", README:" + refused,
                refused.contains(answer), !taken);
        }

        private void refuses(String changed, int least, int most) throws Exception {
            is(changed, least - 1, takes.contains("`" + changed + "` or `-1`"));
            is(changed, least - 2, false);
            is(changed, most + 1, false);
            is(changed, Integer.MIN_VALUE, false);
            is(changed, Integer.MAX_VALUE, false);
        }

        void numbersAtTheirEnds(Map<String, int[]> everywhere) throws Exception {
            Map<String, int[]> all = new TreeMap<>(everywhere);
            all.putAll(ranges(takes));
            for (String changed : names) {
                int[] range = all.get(changed);
                if (range != null) {
                    is(changed, range[0], true);
                    is(changed, range[1], true);
                    refuses(changed, range[0], range[1]);
                }
            }
        }

        void thingsThatAreNotThere() throws Exception {
            for (String changed : names) {
                Integer there = THERE.get(changed);
                if (there != null) {
                    is(changed, there - 1, true);
                    refuses(changed, 0, there - 1);
                }
            }
        }

        /** "80 are told", "24 are there", "more than 500": the last one that is taken, and the next one. */
        void asManyAsItSays() throws Exception {
            Matcher most = Pattern.compile("(\\d+) are (?:there|told)|more than (\\d+)$").matcher(refused.trim());
            if (!most.find()) {
                return;
            }
            int due = Integer.parseInt(most.group(1) == null ? most.group(2) : most.group(1));
            CityCups x = city();
            String last = "";
            for (int i = 0; i <= due; i++) {
                if (x.count(9) == 0) {
                    Due.put(x, "anna");
                }
                String answer = ask(x, "", 0);
                if (refused.contains(answer)) {
                    break;
                }
                last = answer;
            }
            int many = Integer.parseInt(last.replace("`", "")) + (answers.contains("number") ? 1 : 0);
            DUE.is(call + ": how many are taken", many, due);
        }
    }
}
