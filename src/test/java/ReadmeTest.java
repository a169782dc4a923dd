import java.lang.reflect.Method;
import java.lang.reflect.Modifier;
import java.nio.file.Files;
import java.nio.file.Path;
import java.util.ArrayList;
import java.util.List;
import java.util.Map;
import java.util.TreeMap;
import java.util.regex.Matcher;
import java.util.regex.Pattern;

/** Whether README.md tells the truth: its examples, line by line, and the list of all calls. */
public final class ReadmeTest extends Kit {
    private static final Pattern CALL =
        Pattern.compile("x\\.(\\w+)\\((.*)\\);\\s+// ([A-Z]+ \\+ [A-Z]+|[A-Z]+|-?\\d+)(:.*)?");
    private static final Pattern TELL = Pattern.compile("tell\\(x, \"(.*)\"\\);");
    private static final Pattern MADE = Pattern.compile("ActsPaid x = new ActsPaid\\(\\);.*");
    private static final Pattern LISTED = Pattern.compile("\\| `(\\w+)\\((.*)\\)` \\|.*\\|.*\\|");
    private static final Pattern EXAMPLE = Pattern.compile("```java\n(.*?)```", Pattern.DOTALL);

    // The calls of the face, by name: no two bear one name.
    private static final Map<String, Method> FACE = new TreeMap<>();

    public static void main(String[] args) throws Exception {
        for (Method method : ActsPaid.class.getDeclaredMethods()) {
            if (Modifier.isPublic(method.getModifiers())) {
                FACE.put(method.getName(), method);
            }
        }
        String page = Files.readString(Path.of("README.md"));
        int lines = examples(page);
        list(page);
        end(lines + " lines of README.md are answered as it says");
    }

    private static int examples(String page) throws Exception {
        List<String> lines = new ArrayList<>();
        for (Matcher example = EXAMPLE.matcher(page); example.find(); ) {
            if (!example.group(1).startsWith("static void tell(")) {
                lines.addAll(List.of(example.group(1).split("\n")));
            }
        }
        ActsPaid x = null;
        for (String line : lines) {
            about("README.md: " + line);
            Matcher tell = TELL.matcher(line);
            Matcher call = CALL.matcher(line);
            if (MADE.matcher(line).matches()) {
                x = new ActsPaid();
            } else if (x != null && tell.matches()) {
                write(x, tell.group(1));
            } else if (x != null && call.matches() && FACE.containsKey(call.group(1))) {
                due(call.group(1), ask(x, FACE.get(call.group(1)), call.group(2)), number(call.group(3)));
            } else {
                due("this line", "nothing", "a call");
            }
        }
        due("that there are examples", Boolean.toString(lines.size() > 30), "true");
        return lines.size();
    }

    private static long ask(ActsPaid x, Method call, String told) throws ReflectiveOperationException {
        String[] texts = told.isEmpty() ? new String[0] : told.split(", ");
        Object[] numbers = new Object[texts.length];
        for (int i = 0; i < texts.length; i++) {
            numbers[i] = Integer.valueOf(texts[i]);
        }
        return ((Number) call.invoke(x, numbers)).longValue();
    }

    /** A number, a constant, or the sum of two. */
    private static long number(String told) throws ReflectiveOperationException {
        long sum = 0;
        for (String part : told.split(" \\+ ")) {
            boolean constant = Character.isUpperCase(part.charAt(0));
            sum += constant ? ActsPaid.class.getField(part).getLong(null) : Long.parseLong(part);
        }
        return sum;
    }

    private static void list(String page) {
        about("README.md, all calls");
        Map<String, Integer> listed = new TreeMap<>();
        for (String line : page.split("\n")) {
            Matcher row = LISTED.matcher(line);
            if (row.matches()) {
                listed.put(row.group(1), row.group(2).isEmpty() ? 0 : row.group(2).split(", ").length);
            }
        }
        Map<String, Integer> due = new TreeMap<>();
        FACE.forEach((name, method) -> due.put(name, method.getParameterCount()));
        due("the list", listed.toString(), due.toString());
    }
}
