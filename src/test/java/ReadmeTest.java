import java.io.IOException;
import java.lang.reflect.Method;
import java.lang.reflect.Modifier;
import java.nio.file.Files;
import java.nio.file.Path;
import java.util.ArrayList;
import java.util.List;
import java.util.Map;
import java.util.TreeMap;
import java.util.regex.Matcher;
import java.util.regex.Pattern;

/** Runs the calls that README.md shows, and compares what they answer with what it shows. */
public final class ReadmeTest {
    private static final Path README = Path.of("README.md");
    private static final int MOST_CALLS = 512;
    private static final String NEW_OBJECT = "SameWrong x = new SameWrong();";
    private static final Pattern CALL = Pattern.compile("x\\.(\\w+)\\(([^()]*)\\);");
    /** Calls, then as many answers, then perhaps a colon and words. */
    private static final Pattern SHOWN =
            Pattern.compile("((?:x\\.\\w+\\([^()]*\\);\\s*)+)// (-?\\d+(?:, -?\\d+)*)(?::.*)?");
    private static final Pattern ROW = Pattern.compile("\\| `(\\w+)\\(([^()]*)\\)` \\|.*");

    private ReadmeTest() {
    }

    public static void main(String[] args) throws IOException, ReflectiveOperationException {
        List<String> lines = Files.readAllLines(README);
        Example example = new Example();
        example.run(lines);
        example.faults.forEach(fault -> Check.due(fault, 0, 1));
        Check.due("README.md shows calls", Math.min(example.calls, 1), 1);
        System.out.println(example.calls + " calls");
        everyCallIsShown(example);
        everyCallHasRow(lines);
        refusalsAreTold(lines);
        everyAnswerIsCompared(lines, example);
        whatIsNotUnderstoodIsAFault();
        Check.end();
    }

    /** The calls of the public face, by name. */
    private static Map<String, Method> face() {
        Map<String, Method> byName = new TreeMap<>();
        for (Method m : SameWrong.class.getDeclaredMethods()) {
            if (Modifier.isPublic(m.getModifiers())) {
                byName.put(m.getName(), m);
            }
        }
        return byName;
    }

    /** One reading of a page: the object that its examples are at, and all that was not as shown. */
    private static final class Example {
        final List<String> faults = new ArrayList<>();
        final Map<String, Integer> shown = new TreeMap<>();
        int calls = 0;
        private SameWrong object = null;
        private int callsOfObject = 0;

        void run(List<String> lines) throws ReflectiveOperationException {
            boolean inside = false;
            for (int i = 0; i < lines.size(); i++) {
                String line = lines.get(i).trim();
                if (line.startsWith("```")) {
                    inside = line.equals("```java");
                } else if (inside && !line.isEmpty()) {
                    runLine("README.md line " + (i + 1) + ": ", line);
                }
            }
        }

        private void runLine(String where, String line) throws ReflectiveOperationException {
            Matcher shownLine = SHOWN.matcher(line);
            if (line.equals(NEW_OBJECT)) {
                object = new SameWrong();
                callsOfObject = 0;
            } else if (object == null || !shownLine.matches()) {
                faults.add(where + "is not understood: " + line);
            } else {
                runCalls(where, CALL.matcher(shownLine.group(1)), shownLine.group(2).split(", "));
            }
        }

        private void runCalls(String where, Matcher call, String[] answers) throws ReflectiveOperationException {
            int at = 0;
            while (call.find()) {
                String text = where + call.group(1) + "(" + call.group(2) + ")";
                if (at >= answers.length) {
                    faults.add(text + " has no answer");
                } else {
                    runCall(text, call.group(1), call.group(2), Long.parseLong(answers[at]));
                }
                at++;
            }
            if (at < answers.length) {
                faults.add(where + "has more answers than calls");
            }
        }

        private void runCall(String text, String name, String values, long want) throws ReflectiveOperationException {
            Method method = face().get(name);
            Object[] numbers = numbers(values);
            if (method == null || numbers == null || method.getParameterCount() != numbers.length) {
                faults.add(text + " is no call of the class");
                return;
            }
            long got = ((Number) method.invoke(object, numbers)).longValue();
            if (got != want) {
                faults.add(text + " answered " + got + ", shown is " + want);
            }
            calls++;
            callsOfObject++;
            if (callsOfObject > MOST_CALLS) {
                faults.add(text + " comes behind the " + MOST_CALLS + "th call of its object");
            }
            shown.merge(name, 1, Integer::sum);
        }

        /** Whole numbers and signs, parted by commas; null: something else. */
        private static Object[] numbers(String values) {
            String[] texts = values.isEmpty() ? new String[0] : values.split(", ");
            Object[] numbers = new Object[texts.length];
            for (int i = 0; i < texts.length; i++) {
                if (texts[i].matches("'[^'\\\\]'")) {
                    numbers[i] = (int) texts[i].charAt(1);
                } else if (texts[i].matches("-?\\d{1,9}")) {
                    numbers[i] = Integer.parseInt(texts[i]);
                } else {
                    return null;
                }
            }
            return numbers;
        }
    }

    private static void everyCallIsShown(Example example) {
        for (String name : face().keySet()) {
            Check.due("an example shows " + name, example.shown.containsKey(name) ? 1 : 0, 1);
        }
    }

    private static void everyCallHasRow(List<String> lines) {
        Map<String, Integer> rows = new TreeMap<>();
        for (String line : lines) {
            Matcher row = ROW.matcher(line);
            if (row.matches()) {
                rows.merge(row.group(1), 1, Integer::sum);
                Method method = face().get(row.group(1));
                int parameters = row.group(2).isEmpty() ? 0 : row.group(2).split(", ").length;
                int due = method == null ? -1 : method.getParameterCount();
                Check.due(row.group(1) + " takes so many", parameters, due);
                Check.due(row.group(1) + " has columns", line.split(" \\|", -1).length, 5);
            }
        }
        face().keySet().forEach(name -> Check.due(name + " has one row", rows.getOrDefault(name, 0), 1));
    }

    private static void refusalsAreTold(List<String> lines) {
        int[] codes = {SameWrong.BAD, SameWrong.NOT, SameWrong.FULL};
        String[] names = {"BAD", "NOT", "FULL"}, findings = {"NULL", "INDEX", "CAST", "STORE", "SIZE"};
        for (int i = 0; i < codes.length; i++) {
            String row = "| `" + names[i] + "` | " + codes[i] + " | " + (Long.MIN_VALUE - codes[i]) + " | ";
            Check.due("there is a row " + row, lines.stream().filter(line -> line.startsWith(row)).count(), 1);
        }
        for (int i = 0; i < findings.length; i++) {
            String row = "| " + findings[i] + " | " + (-11 - i) + " | | finding " + (i + 1) + ": ";
            Check.due("there is a row " + row, lines.stream().filter(line -> line.startsWith(row)).count(), 1);
        }
    }

    /** With any one answer on the page made another, the page has one fault more. */
    private static void everyAnswerIsCompared(List<String> lines, Example asItIs) throws ReflectiveOperationException {
        int changed = 0;
        for (int i = 0; i < lines.size(); i++) {
            Matcher shownLine = SHOWN.matcher(lines.get(i));
            int answers = shownLine.matches() ? shownLine.group(2).split(", ").length : 0;
            for (int at = 0; at < answers; at++) {
                List<String> others = new ArrayList<>(lines);
                others.set(i, withOtherAnswer(lines.get(i), shownLine, at));
                Example example = new Example();
                example.run(others);
                Check.due("faults with " + others.get(i), example.faults.size(), asItIs.faults.size() + 1);
                changed++;
            }
        }
        Check.due("answers that were made others", changed, asItIs.calls);
    }

    private static String withOtherAnswer(String line, Matcher shownLine, int at) {
        String[] answers = shownLine.group(2).split(", ");
        answers[at] = Long.toString(Long.parseLong(answers[at]) + 1);
        return line.substring(0, shownLine.start(2)) + String.join(", ", answers) + line.substring(shownLine.end(2));
    }

    private static void whatIsNotUnderstoodIsAFault() throws ReflectiveOperationException {
        faultsOf(0, NEW_OBJECT, "x.count(0); // 10", "", "x.count(0); x.count(1); // 10, 0: words, 5");
        faultsOf(1, "x.count(0); // 10");
        faultsOf(1, NEW_OBJECT, "x.count(0);");
        faultsOf(1, NEW_OBJECT, "x.count(0); // ten");
        faultsOf(1, NEW_OBJECT, "int n = x.count(0); // 10");
        faultsOf(1, NEW_OBJECT, "x.count(0); x.count(1); // 10");
        faultsOf(1, NEW_OBJECT, "x.count(0); // 10, 0");
        faultsOf(1, NEW_OBJECT, "x.amount(0); // 10");
        faultsOf(1, NEW_OBJECT, "x.count(); // 10");
        faultsOf(1, NEW_OBJECT, "x.count(n); // 10");
        faultsOf(1, NEW_OBJECT, "x.count(0); // 11");
    }

    private static void faultsOf(int want, String... code) throws ReflectiveOperationException {
        List<String> page = new ArrayList<>(List.of("x.count(0); // 5", "```java"));
        page.addAll(List.of(code));
        page.addAll(List.of("```", "x.count(0); // 5", "```sh", "x.count(0); // 5", "```"));
        Example example = new Example();
        example.run(page);
        Check.due("faults of " + String.join(" ", code), example.faults.size(), want);
    }
}
