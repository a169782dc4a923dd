import java.io.IOException;
import java.lang.reflect.Constructor;
import java.lang.reflect.Field;
import java.lang.reflect.Member;
import java.lang.reflect.Method;
import java.lang.reflect.Modifier;
import java.nio.file.Files;
import java.nio.file.Path;
import java.util.ArrayList;
import java.util.Arrays;
import java.util.List;
import java.util.Set;
import java.util.TreeSet;

/** The public face, to the letter, and those rules of the language that a look at the file can tell. */
public final class FaceTest {
    private static final String[] FACE = {
        "int NONE = -6", "int UNKNOWN = -1", "int OUTSIDE = -2", "int STATE = -3", "int FULL = -4", "int NO = -5",
        "long LOST = -1000000000000000000",
        "int acts(int)", "int set(int, int)", "int say(int)", "int wipe()", "int fault(int)", "int guest(int)",
        "int leave(int)", "int worth(int, int)", "int play()",
        "int leaves(int, int)", "int takings()", "int stayed(int)", "int fares(int)", "int must(int, int)",
        "int order(int)", "int claque(int, int)",
        "int friends(int, int)", "int seating(int)", "int other(int, int)", "int over(int, int)", "int both(int)",
        "int rests(int)",
        "int seen(int, int, int)", "int forget()", "int fits(int, int, int)", "long odds(int, int, int)",
        "int year(int, int, int)", "int image(int)", "int restore(int)", "int told(int)",
    };

    private static int wrong = 0;

    public static void main(String[] args) throws Exception {
        face();
        names();
        source();
        System.out.println(wrong == 0 ? "the face is as told" : wrong + " faults");
        if (wrong != 0) {
            System.exit(1);
        }
    }

    private static void check(boolean right, String fault) {
        if (!right) {
            wrong++;
            System.out.println(fault);
        }
    }

    private static void face() throws IllegalAccessException {
        Set<String> found = new TreeSet<>();
        for (Field field : ActsPaid.class.getDeclaredFields()) {
            if (!Modifier.isPrivate(field.getModifiers())) {
                check(isConstant(field), field.getName() + " is no constant");
                found.add(field.getType() + " " + field.getName() + " = " + field.get(null));
            }
        }
        for (Method method : ActsPaid.class.getDeclaredMethods()) {
            if (!Modifier.isPrivate(method.getModifiers())) {
                check(method.getModifiers() == Modifier.PUBLIC, method.getName() + " is not just public");
                String parameters = Arrays.toString(method.getParameterTypes()).replace('[', '(').replace(']', ')');
                found.add(method.getReturnType() + " " + method.getName() + parameters);
            }
        }
        check(found.equals(new TreeSet<>(Arrays.asList(FACE))), "the face is " + found);
        Constructor<?>[] constructors = ActsPaid.class.getDeclaredConstructors();
        check(constructors.length == 1 && constructors[0].getParameterCount() == 0
            && Modifier.isPublic(constructors[0].getModifiers()), "the constructor is another one");
        check(Modifier.isFinal(ActsPaid.class.getModifiers()), "the class is not final");
    }

    private static boolean isConstant(Field field) {
        return field.getModifiers() == (Modifier.PUBLIC | Modifier.STATIC | Modifier.FINAL);
    }

    private static void names() {
        Set<String> open = new TreeSet<>();
        List<Class<?>> classes = new ArrayList<>(Arrays.asList(ActsPaid.class.getDeclaredClasses()));
        classes.add(ActsPaid.class);
        for (Method method : ActsPaid.class.getDeclaredMethods()) {
            if (Modifier.isPublic(method.getModifiers())) {
                open.add(method.getName());
            }
        }
        check(classes.size() <= 12, "too many classes: " + classes.size());
        for (Class<?> inner : classes) {
            int fields = 0;
            for (Member field : inner.getDeclaredFields()) {
                boolean isStatic = Modifier.isStatic(field.getModifiers());
                check(!isStatic || Modifier.isFinal(field.getModifiers()), field.getName() + " is static state");
                fields += isStatic ? 0 : 1;
            }
            check(fields <= 20, inner.getName() + " has " + fields + " fields");
            for (Method method : inner.getDeclaredMethods()) {
                check(method.getParameterCount() <= 7, method.getName() + " takes too much");
                check(inner == ActsPaid.class && Modifier.isPublic(method.getModifiers())
                    || !open.contains(method.getName()), method.getName() + " bears a public name");
            }
        }
    }

    private static void source() throws IOException {
        String text = Files.readString(Path.of("src/main/java/ActsPaid.java"));
        String[] banned = {"import ", "->", "::", "try ", "catch", "throw", "finally", "synchronized", "assert ",
            "static {", "Object", "float", "double", "System.", "Thread", "Random", "Exact", "package "};
        for (String word : banned) {
            check(!text.contains(word), "the file says '" + word + "'");
        }
        check(text.chars().allMatch(sign -> sign == '\n' || sign >= 32 && sign < 127), "a sign beyond ASCII");
        int length = 0;
        for (String line : text.split("\n")) {
            boolean opens = line.matches("( {4}| {8})\\S.*\\) \\{");
            length = opens ? 0 : length + 1;
            check(!line.matches("( {4}| {8})\\}") || length <= 60, "a method of " + length + " lines");
            check(line.length() <= 110, "a long line: " + line);
        }
    }
}
