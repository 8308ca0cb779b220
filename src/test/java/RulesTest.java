import java.io.IOException;
import java.lang.reflect.Constructor;
import java.lang.reflect.Field;
import java.lang.reflect.Member;
import java.lang.reflect.Method;
import java.lang.reflect.Modifier;
import java.nio.file.Files;
import java.nio.file.Path;
import java.util.Arrays;
import java.util.Set;
import java.util.TreeSet;
import java.util.regex.Matcher;
import java.util.regex.Pattern;

/** The face of the document, and those rules of LANGUAGE.md that reflection or the text of the program shows. */
public final class RulesTest {
    private static final Path PROGRAM = Path.of("src/main/java/SameWrong.java");
    private static final String[] FACE = {
        "int questions(int)", "int type(int)", "int wipe()", "int fault()", "int key(int)", "int set(int, int)",
        "int pupil(int, int)", "int answer(int, int, int, int)", "int read(int, int, int)", "int said(int, int)",
        "int beside(int, int)", "int mark(int, int)", "int shared(int, int, int)", "long chance(int, int, int)",
        "int seats(int)", "int sources()", "int from(int, int)", "int chain()", "int rubbed(int, int)",
        "long gains(int, int)", "int known(int, int)", "long lead(int, int, int)", "long rest(int, int, int)",
        "int should(int)", "int badly()", "int without(int, int)", "long hard(int, int)", "long parts(int, int)",
        "int sheet(int, int, int)", "int lose(int)", "int put(int, int, int, int)", "int get(int, int, int)",
        "int copy(int, int, int, int, int)", "int write(int, int)", "int count(int)", "long digest()"};
    private static final String[] FORBIDDEN = {
        "throw", "throws", "try", "catch", "finally", "synchronized", "assert", "volatile", "native", "\\w*Exact",
        "package", "hashCode", "toString", "equals", "Long\\.M\\w*", "Integer\\.M\\w*", "System\\.(?!arraycopy)\\w*",
        "Object", "Random", "Thread", "protected", "double", "float"};

    private RulesTest() {
    }

    public static void main(String[] args) throws IOException, IllegalAccessException {
        face();
        constants();
        inside();
        sizes();
        text();
        Check.end();
    }

    private static void holds(String what, boolean is) {
        Check.due(what, is ? 1 : 0, 1);
    }

    private static boolean isPrivate(Member m) {
        return Modifier.isPrivate(m.getModifiers()) || m.isSynthetic();
    }

    private static String types(Class<?>[] types) {
        StringBuilder text = new StringBuilder("(");
        for (Class<?> type : types) {
            text.append(text.length() > 1 ? ", " : "").append(type.getSimpleName());
        }
        return text.append(")").toString();
    }

    private static void face() {
        Set<String> due = new TreeSet<>(Arrays.asList(FACE)), has = new TreeSet<>();
        for (Method m : SameWrong.class.getDeclaredMethods()) {
            if (!isPrivate(m)) {
                holds(m + " is public, of the object", (m.getModifiers() & ~Modifier.PUBLIC) == 0);
                has.add(m.getReturnType().getSimpleName() + " " + m.getName() + types(m.getParameterTypes()));
            }
        }
        due.forEach(m -> holds("the face has " + m, has.contains(m)));
        has.forEach(m -> holds("the document has " + m, due.contains(m)));
        Constructor<?>[] constructors = SameWrong.class.getDeclaredConstructors();
        Check.due("one constructor", constructors.length, 1);
        holds("it is public", Modifier.isPublic(constructors[0].getModifiers()));
        Check.due("it takes nothing", constructors[0].getParameterCount(), 0);
        holds("the class is public and final",
                (SameWrong.class.getModifiers() & 31) == (Modifier.PUBLIC | Modifier.FINAL));
    }

    private static void constants() throws IllegalAccessException {
        String[] names = {"NONE", "BAD", "NOT", "FULL"};
        for (Field f : SameWrong.class.getDeclaredFields()) {
            if (!isPrivate(f)) {
                int at = Arrays.asList(names).indexOf(f.getName());
                holds("a constant of the document: " + f, at >= 0);
                holds("public, static, final: " + f,
                        f.getModifiers() == (Modifier.PUBLIC | Modifier.STATIC | Modifier.FINAL));
                Check.due(f.getName(), f.getInt(null), -1 - at);
            }
        }
        Check.due("BAD", SameWrong.BAD, -2);
    }

    private static void inside() {
        Set<String> open = new TreeSet<>();
        for (Method m : SameWrong.class.getDeclaredMethods()) {
            if (Modifier.isPublic(m.getModifiers())) {
                open.add(m.getName());
            }
        }
        for (Class<?> c : SameWrong.class.getDeclaredClasses()) {
            holds(c + " is static", Modifier.isStatic(c.getModifiers()));
            holds(c + " is private or package-visible",
                    !Modifier.isPublic(c.getModifiers()) && !Modifier.isProtected(c.getModifiers()));
            for (Method m : c.getDeclaredMethods()) {
                holds(m + " bears no public name", !open.contains(m.getName()));
            }
        }
        for (Method m : SameWrong.class.getDeclaredMethods()) {
            holds(m + " bears no public name", Modifier.isPublic(m.getModifiers()) || !open.contains(m.getName()));
        }
    }

    private static void sizes() {
        Class<?>[] classes = Arrays.copyOf(SameWrong.class.getDeclaredClasses(),
                SameWrong.class.getDeclaredClasses().length + 1);
        classes[classes.length - 1] = SameWrong.class;
        holds("at most twelve classes", classes.length <= 12);
        for (Class<?> c : classes) {
            int fields = 0;
            for (Field f : c.getDeclaredFields()) {
                boolean isStatic = Modifier.isStatic(f.getModifiers());
                fields += isStatic ? 0 : 1;
                holds("static is final: " + f, !isStatic || Modifier.isFinal(f.getModifiers()));
            }
            holds(c + " has at most twenty fields", fields <= 20);
            for (Method m : c.getDeclaredMethods()) {
                holds(m + " takes at most seven", m.getParameterCount() <= 7);
            }
        }
    }

    private static void text() throws IOException {
        String text = Files.readString(PROGRAM);
        holds("signs 1 to 127", text.chars().allMatch(c -> c > 0 && c < 128));
        String code = text.replaceAll("(?s)/\\*.*?\\*/", "").replaceAll("//[^\n]*", "");
        for (String word : FORBIDDEN) {
            Matcher found = Pattern.compile("\\b" + word + "\\b").matcher(code);
            holds("the program has no " + word, !found.find());
        }
        holds("no lambda, no method reference", !code.contains("->") && !code.contains("::"));
        holds("no other import", code.replace("import java.util.Arrays;", "").indexOf("import ") < 0);
        holds("no static block", !Pattern.compile("static\\s*\\{").matcher(code).find());
        lengths(code.split("\n"));
    }

    /** A method begins with a line "name(..) {" and ends with the next brace that stands as far in. */
    private static void lengths(String[] lines) {
        Pattern first = Pattern.compile("( +)(?!if|for|while|switch|else|\\})\\S.*\\) \\{");
        int methods = 0;
        for (int i = 0; i < lines.length; i++) {
            Matcher begin = first.matcher(lines[i]);
            if (begin.matches()) {
                int end = i;
                while (!lines[end].equals(begin.group(1) + "}")) {
                    end++;
                }
                methods++;
                holds(lines[i].trim() + " has at most sixty lines", end - i < 60);
            }
        }
        holds("methods were found", methods > FACE.length);
    }
}
