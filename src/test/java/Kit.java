import java.io.IOException;
import java.lang.reflect.InvocationTargetException;
import java.lang.reflect.Method;
import java.nio.file.Files;
import java.nio.file.Path;
import java.util.ArrayList;
import java.util.Comparator;
import java.util.List;
import java.util.function.IntUnaryOperator;

/** What the tests share: the count of wrong answers, and short ways to tell and to ask. */
class Kit {
    static final int NONE = -6, UNKNOWN = -1, OUTSIDE = -2, STATE = -3, FULL = -4, NO = -5;
    static final long LOST_OUTSIDE = -1000000000000000002L;

    private static int wrong = 0;
    private static String about = "";

    /** What the next answers are about: it stands ahead of each that is wrong. */
    static void about(String what) {
        about = what;
    }

    static void due(String what, long got, long want) {
        due(what, Long.toString(got), Long.toString(want));
    }

    static void due(String what, String got, String want) {
        if (!got.equals(want)) {
            wrong++;
            System.out.println(about + ": " + what + " answered " + got + ", due is " + want);
        }
    }

    static void end(String allRight) {
        System.out.println(wrong == 0 ? allRight : wrong + " answers are not as due");
        if (wrong != 0) {
            System.exit(1);
        }
    }

    /** Runs every method of the class that Says something; each promise from first to last needs one. */
    static void holds(Class<?> tests, int first, int last) throws IOException, ReflectiveOperationException {
        List<Method> methods = new ArrayList<>();
        for (Method method : tests.getDeclaredMethods()) {
            if (method.isAnnotationPresent(Says.class)) {
                methods.add(method);
            }
        }
        methods.sort(Comparator.comparing((Method method) -> method.getAnnotation(Says.class).promise())
            .thenComparing(Method::getName));
        String document = Files.readString(Path.of("../shared/DOC.md")).replaceAll("\\s+", " ");
        int[] tested = new int[32];
        for (Method method : methods) {
            Says says = method.getAnnotation(Says.class);
            about("promise " + says.promise() + ", " + method.getName() + " (" + says.words() + ")");
            due("whether the document says so", Boolean.toString(document.contains(says.words())), "true");
            tested[says.promise()]++;
            run(method);
        }
        for (int promise = first; promise <= last; promise++) {
            about("promise " + promise);
            due("whether it has a test", Boolean.toString(tested[promise] > 0), "true");
        }
        end(methods.size() + " sentences of promises " + first + " to " + last + " hold at their bounds");
    }

    private static void run(Method test) throws ReflectiveOperationException {
        test.setAccessible(true);
        try {
            test.invoke(null);
        } catch (InvocationTargetException thrown) {
            wrong++;
            System.out.println(about + ": threw");
            thrown.getCause().printStackTrace(System.out);
        }
    }

    static void write(ActsPaid x, String text) {
        x.wipe();
        for (int i = 0; i < text.length(); i++) {
            x.say(text.charAt(i));
        }
    }

    static int come(ActsPaid x, int guest, String text) {
        write(x, text);
        return x.guest(guest);
    }

    static int play(ActsPaid x, String text) {
        write(x, text);
        return x.play();
    }

    static int fault(ActsPaid x, String text, int how) {
        write(x, text);
        return x.fault(how);
    }

    /** Friends by twos, told by their letters: "ABCD" are A and B, C and D. */
    static void befriend(ActsPaid x, String pairs) {
        for (int i = 0; i + 1 < pairs.length(); i += 2) {
            due("friends " + pairs.substring(i, i + 2), x.friends(pairs.charAt(i) - 'A', pairs.charAt(i + 1) - 'A'), 1);
        }
    }

    /** A theatre of so many acts; "" is a guest who does not come. */
    static ActsPaid with(int acts, String... guests) {
        ActsPaid x = new ActsPaid();
        x.acts(acts);
        for (int guest = 0; guest < guests.length; guest++) {
            if (!guests[guest].isEmpty() && come(x, guest, guests[guest]) < 0) {
                throw new IllegalStateException("no guest: " + guests[guest]);
            }
        }
        return x;
    }

    static String toldFrom(ActsPaid x, int first, int many) {
        StringBuilder all = new StringBuilder();
        for (int what = first; what < first + many; what++) {
            all.append(' ').append(x.told(what));
        }
        return all.substring(1);
    }

    static String seats(ActsPaid x) {
        return row(x::seating, 9);
    }

    static String orders(ActsPaid x) {
        return row(x::order, 7);
    }

    static String resting(ActsPaid x) {
        return row(x::rests, 101);
    }

    /** The head (i = -1), then all items till NONE; and whether more come behind that. */
    private static String row(IntUnaryOperator call, int most) {
        StringBuilder all = new StringBuilder().append(call.applyAsInt(-1));
        int i = 0;
        while (i < most && call.applyAsInt(i) != NONE) {
            all.append(' ').append(call.applyAsInt(i++));
        }
        return all.append(call.applyAsInt(i + 1) == NONE ? "" : " and more").toString();
    }

    static String ofGuest(ActsPaid x, int guest) {
        return x.leaves(guest, 0) + " " + x.leaves(guest, 1) + " " + x.leaves(guest, 2);
    }

    static String bestFares(ActsPaid x) {
        return x.fares(0) + " " + x.fares(1) + " " + x.fares(2);
    }

    static String weeping(ActsPaid x, int v) {
        return x.claque(v, 0) + " " + x.claque(v, 1);
    }

    static String goes(ActsPaid x, int guest) {
        return x.over(guest, 0) + " " + x.over(guest, 1);
    }

    static String fitting(ActsPaid x, int guest, int act) {
        return x.fits(guest, act, 0) + " " + x.fits(guest, act, 1) + " " + x.fits(guest, act, 2);
    }

    static String fraction(ActsPaid x, int takings, int c) {
        return x.odds(takings, c, 0) + "/" + x.odds(takings, c, 1);
    }
}
