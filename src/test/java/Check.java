import java.lang.reflect.InvocationTargetException;
import java.lang.reflect.Method;
import java.lang.reflect.Modifier;
import java.util.Locale;
import java.util.Map;
import java.util.TreeMap;

/** Counts and prints answers that are not the ones due; makes tests and pupils from texts. */
final class Check {
    static final long BAD_LONG = Long.MIN_VALUE + 2, NOT_LONG = Long.MIN_VALUE + 3, FULL_LONG = Long.MIN_VALUE + 4;
    static final int[] ODD_INTS = {Integer.MIN_VALUE, Integer.MIN_VALUE + 1, -1000, -1, Integer.MAX_VALUE};

    private static String running = "";
    private static int wrong = 0;
    private static int asked = 0;

    private Check() {
    }

    static void due(String call, long got, long want) {
        asked++;
        if (got != want) {
            wrong++;
            System.out.println(running + call + " answered " + got + ", due is " + want);
        }
    }

    static void fraction(String call, long above, long below, long wantAbove, long wantBelow) {
        due(call + " above", above, wantAbove);
        due(call + " below", below, wantBelow);
    }

    /** Two texts of many lines; the first line that differs is told. */
    static void alike(String what, String got, String want) {
        asked++;
        if (!got.equals(want)) {
            wrong++;
            String[] is = got.split("\n"), should = want.split("\n");
            int line = 0;
            while (line < is.length && line < should.length && is[line].equals(should[line])) {
                line++;
            }
            System.out.println(running + what + ": " + (line < is.length ? is[line] : "nothing more")
                    + ", due is " + (line < should.length ? should[line] : "nothing more"));
        }
    }

    /** Runs the tests of a class: its methods "promise" with two figures; each promise first .. last has one. */
    static void runPromises(Class<?> tests, int first, int last) {
        Map<String, Method> byName = new TreeMap<>();
        for (Method m : tests.getDeclaredMethods()) {
            if (m.getName().startsWith("promise") && Modifier.isStatic(m.getModifiers())) {
                byName.put(m.getName(), m);
            }
        }
        for (int promise = first; promise <= last; promise++) {
            String name = String.format(Locale.ROOT, "promise%02d", promise);
            long many = byName.keySet().stream().filter(n -> n.startsWith(name)).count();
            due(name + " has tests", Math.min(many, 1), 1);
        }
        byName.values().forEach(Check::run);
        System.out.println(byName.size() + " tests");
    }

    private static void run(Method test) {
        running = test.getName() + ": ";
        try {
            test.invoke(null);
        } catch (InvocationTargetException | IllegalAccessException e) {
            wrong++;
            System.out.println(running + e + (e.getCause() == null ? "" : ": " + e.getCause()));
        }
        running = "";
    }

    static void end() {
        System.out.println(asked + " answers, " + wrong + " not as due");
        if (wrong != 0) {
            System.exit(1);
        }
    }

    /** A test with as many questions as the key has bytes. */
    static SameWrong test(String key) {
        SameWrong x = new SameWrong();
        x.questions(key.length());
        type(x, key);
        return x;
    }

    static void type(SameWrong x, String bytes) {
        for (int i = 0; i < bytes.length(); i++) {
            due("type(" + (int) bytes.charAt(i) + ")", x.type(bytes.charAt(i)), i + 1);
        }
    }

    /** A pupil on a seat with answers (figures) to questions 0 on, all told at time 0. */
    static int sits(SameWrong x, int row, int place, String answers) {
        int pupil = x.pupil(row, place);
        due("pupil(" + row + ", " + place + ") is a number", pupil >= 0 ? 1 : 0, 1);
        tells(x, pupil, answers, 0);
        return pupil;
    }

    static void tells(SameWrong x, int pupil, String answers, int time) {
        for (int q = 0; q < answers.length(); q++) {
            int before = x.count(3);
            due("answer(" + pupil + ", " + q + ")", x.answer(pupil, q, answers.charAt(q) - '0', time), before + 1);
        }
    }
}
