import java.util.HashMap;
import java.util.Map;
import java.util.function.Supplier;

/** Whether calls that should change nothing do: two theatres alike, one of them asked, both looked at all over. */
final class Twins extends Kit {
    private static final int[] FAR = {Integer.MIN_VALUE, Integer.MIN_VALUE + 1, -65536, -1000, -256, -32, -8,
        32, 64, 128, 255, 256, 257, 512, 65536, 65633, 100000, 1 << 30, Integer.MAX_VALUE - 1, Integer.MAX_VALUE};

    private static final Map<Scene, String[]> SEEN = new HashMap<>();

    private Twins() {
    }

    interface Call {
        long on(ActsPaid x);
    }

    interface CallWith {
        long on(ActsPaid x, int v);
    }

    /** The call is answered so, and changes nothing. */
    static void refused(String what, Scene scene, Call call, long due) {
        refused(what + " at " + scene, scene::make, SEEN.computeIfAbsent(scene, Twins::all), call, due);
    }

    static void refused(String what, Supplier<ActsPaid> made, Call call, long due) {
        refused(what, made, all(made), call, due);
    }

    private static void refused(String what, Supplier<ActsPaid> made, String[] untouched, Call call, long due) {
        for (int look = 0; look < LOOKS.length; look++) {
            ActsPaid x = made.get();
            due(what, call.on(x), due);
            due(LOOKS[look] + " behind " + what, look(x, look), untouched[look]);
        }
    }

    static void refusedEverywhere(String what, Call call, long due) {
        for (Scene scene : Scene.values()) {
            refused(what, scene, call, due);
        }
    }

    /** Refused are one below the least, one above the greatest, and numbers far off. */
    static void bounds(String what, CallWith call, int least, int greatest, long refusal, Scene... scenes) {
        for (Scene scene : scenes) {
            refused(what + " with " + (least - 1), scene, x -> call.on(x, least - 1), refusal);
            refused(what + " with " + (greatest + 1), scene, x -> call.on(x, greatest + 1), refusal);
        }
        for (int far : FAR) {
            if (far < least || far > greatest) {
                refused(what + " with " + far, scenes[0], x -> call.on(x, far), refusal);
            }
        }
    }

    /** A call that only tells something: asked twice, it answers the same, and changes nothing. */
    static void tells(String what, Call call) {
        for (Scene scene : Scene.values()) {
            long told = call.on(scene.make());
            refused(what, scene, x -> {
                long first = call.on(x);
                long second = call.on(x);
                return first == second ? first : first - 1000;
            }, told);
        }
    }

    // What can be asked of a theatre, in parts: no object is to be asked more than 512 times.
    private static final String[] LOOKS = {"acts and guests", "evenings and houses", "sights", "the pad", "must",
        "friends", "the images"};

    private static String[] all(Scene scene) {
        return all(scene::make);
    }

    private static String[] all(Supplier<ActsPaid> made) {
        String[] all = new String[LOOKS.length];
        for (int look = 0; look < all.length; look++) {
            all[look] = look(made.get(), look);
        }
        return all;
    }

    private static String look(ActsPaid x, int look) {
        switch (look) {
            case 0: return actsAndGuests(x);
            case 1: return eveningsAndHouses(x);
            case 2: return sights(x);
            case 3: return pad(x);
            case 4: return must(x);
            case 5: return friends(x);
            default: return images(x);
        }
    }

    private static String actsAndGuests(ActsPaid x) {
        StringBuilder seen = new StringBuilder(toldFrom(x, 0, 30));
        for (int guest = 0; guest < 8; guest++) {
            seen.append("; ").append(ofGuest(x, guest));
            for (int act = 0; act < 6; act++) {
                seen.append(' ').append(x.worth(guest, act));
            }
        }
        return seen.append("; ").append(x.fault(0)).append(' ').append(x.fault(1)).toString();
    }

    private static String eveningsAndHouses(ActsPaid x) {
        StringBuilder seen = new StringBuilder().append(x.takings()).append("; ").append(bestFares(x));
        seen.append("; ").append(orders(x)).append("; ").append(seats(x));
        seen.append("; ").append(weeping(x, 1)).append(' ').append(weeping(x, 25));
        for (int i = 0; i < 8; i++) {
            seen.append("; ").append(x.stayed(i)).append(' ').append(goes(x, i)).append(' ').append(x.rests(i - 1));
        }
        seen.append("; ").append(x.both(0)).append(' ').append(x.both(1));
        seen.append("; ").append(fraction(x, 1, 3)).append(' ').append(fraction(x, 60, 7));
        return seen.append("; ").append(x.year(77, 9, 0)).append(' ').append(x.year(77, 9, 1)).toString();
    }

    private static String sights(ActsPaid x) {
        StringBuilder seen = new StringBuilder();
        for (int guest = 0; guest < 8; guest++) {
            for (int act = 0; act < x.told(1); act++) {
                seen.append("; ").append(fitting(x, guest, act));
            }
        }
        return seen.append("; ").append(x.forget()).toString();
    }

    /** More signs than six can only be counted; up to six, a theatre of so many acts tells them all. */
    private static String pad(ActsPaid x) {
        int signs = x.told(0);
        StringBuilder seen = new StringBuilder().append(signs);
        if (signs >= 1 && signs <= 6) {
            x.acts(signs);
            seen.append("; ").append(x.fault(0)).append(' ').append(x.fault(1));
            seen.append("; ").append(x.play()).append(' ').append(toldFrom(x, 10, 6));
            seen.append("; ").append(x.guest(0));
            for (int act = 0; act < signs; act++) {
                seen.append(' ').append(x.worth(0, act));
            }
        }
        return seen.append("; ").append(x.say('a')).append(' ').append(x.wipe()).toString();
    }

    /** Of each two acts, whether one could still be told to be played ahead of the other. */
    static String must(ActsPaid x) {
        StringBuilder seen = new StringBuilder();
        x.image(0);
        for (int act = 0; act < x.told(1); act++) {
            for (int other = 0; other < x.told(1); other++) {
                x.restore(0);
                seen.append(x.must(act, other) == STATE ? " " + act + "<-" + other : "");
            }
        }
        return seen.toString();
    }

    /** Who is given two friends more can sit by both only, if they have no other who comes. */
    static String friends(ActsPaid x) {
        StringBuilder seen = new StringBuilder();
        String alike = "aaaaaa".substring(0, x.told(1));
        for (int guest = 0; guest < 8; guest++) {
            come(x, guest, alike);
        }
        x.image(0);
        for (int one = 0; one < 8; one++) {
            for (int two = one + 1; two < 8; two++) {
                x.restore(0);
                int third = firstBut(one, two, -1);
                int fourth = firstBut(one, two, third);
                for (int guest = 0; guest < 8; guest++) {
                    if (guest != one && guest != two && guest != third && guest != fourth) {
                        x.leave(guest);
                    }
                }
                x.friends(one, third);
                x.friends(one, fourth);
                seen.append(x.seating(-1) == NONE ? " " + one + "-" + two : "");
            }
        }
        return seen.toString();
    }

    private static int firstBut(int one, int two, int three) {
        int guest = 0;
        while (guest == one || guest == two || guest == three) {
            guest++;
        }
        return guest;
    }

    private static String images(ActsPaid x) {
        StringBuilder seen = new StringBuilder();
        for (int image = 0; image < 2; image++) {
            seen.append("; ").append(x.restore(image)).append(' ').append(toldFrom(x, 0, 30));
            for (int guest = 0; guest < 8; guest++) {
                seen.append("; ").append(fitting(x, guest, 0));
                for (int act = 0; act < x.told(1); act++) {
                    seen.append(' ').append(x.worth(guest, act));
                }
            }
            seen.append("; ").append(orders(x)).append("; ").append(seats(x)).append("; ").append(x.rests(-1));
        }
        return seen.toString();
    }
}
