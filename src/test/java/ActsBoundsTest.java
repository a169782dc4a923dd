/** The bounds that the document names of acts, guests and the pad: promises 1 to 10. */
public final class ActsBoundsTest extends Kit {
    private static final Scene[] ALL = Scene.values();
    // Signs that stand next to those that tell a worth, or to digits.
    private static final String NEITHER = "!/:@K[`{~";

    public static void main(String[] args) throws Exception {
        holds(ActsBoundsTest.class, 1, 10);
    }

    private static String signs(char sign, int many) {
        return String.valueOf(sign).repeat(many);
    }

    private static String digits(int acts) {
        return "0123456".substring(0, acts);
    }

    private static String guestsKnown(ActsPaid x) {
        StringBuilder known = new StringBuilder();
        for (int guest = 0; guest < 8; guest++) {
            known.append(x.worth(guest, 0) == UNKNOWN ? "" : " " + guest);
        }
        return known.toString();
    }

    // ---- A new object

    @Says(promise = 1, words = "Four ACTS, nobody comes.")
    static void fourActs() {
        ActsPaid x = new ActsPaid();
        due("told(1)", x.told(1), 4);
        due("stayed(3)", x.stayed(3), 0);
        due("stayed(4)", x.stayed(4), UNKNOWN);
        due("acts(4)", x.acts(4), 4);
    }

    @Says(promise = 1, words = "some of whom come (none at first)")
    static void nobodyComes() {
        ActsPaid x = new ActsPaid();
        due("told(2)", x.told(2), 0);
        due("guests known", guestsKnown(x), "");
        due("takings()", x.takings(), 0);
        due("seating(-1)", x.seating(-1), 0);
        due("seating(0)", x.seating(0), NONE);
        for (int guest = 0; guest < 8; guest++) {
            due("leave(" + guest + ")", new ActsPaid().leave(guest), UNKNOWN);
        }
    }

    @Says(promise = 1, words = "in which they are played (by numbers at first)")
    static void orderByNumbers() {
        due("the order", toldFrom(new ActsPaid(), 9, 6), "-2 0 1 2 3 -2");
    }

    @Says(promise = 1, words = "BASE (0 to 30; 5 at first) and STEP (0 to 9; 1 at first)")
    static void faresAtFirst() {
        due("base and step", toldFrom(new ActsPaid(), 3, 2), "5 1");
        due("set(0, 30)", new ActsPaid().set(0, 30), 5);
        due("set(1, 9)", new ActsPaid().set(1, 9), 1);
    }

    @Says(promise = 1, words = "THE LAW: 0 (at first)")
    static void lawAtFirst() {
        due("the law", new ActsPaid().told(5), 0);
        due("set(2, 1)", new ActsPaid().set(2, 1), 0);
    }

    @Says(promise = 1, words = "(3; 5 at first)")
    static void baseThereAtFirst() {
        due("the base there", new ActsPaid().told(6), 5);
        due("set(3, 30)", new ActsPaid().set(3, 30), 5);
    }

    @Says(promise = 1, words = "each WORTH some v (0 to 25; 0 at first) to everybody")
    static void worthsThereAtFirst() {
        due("worths there", toldFrom(new ActsPaid(), 19, 6), "-2 0 0 0 0 -2");
    }

    @Says(promise = 1, words = "FRIENDS, told by twos (none at first)")
    static void noFriends() {
        due("friends", Twins.friends(new ActsPaid()), "");
    }

    @Says(promise = 1, words = "MUST: pairs of ACTS of which one is played ahead of the other (some time).")
    static void nothingMust() {
        due("must", Twins.must(new ActsPaid()), "");
        due("the first order", orders(new ActsPaid()), "0 0 1 2 3");
    }

    @Says(promise = 1, words = "SIGHTS, 6 at most")
    static void nothingSeen() {
        due("told(7)", new ActsPaid().told(7), 0);
        due("forget()", new ActsPaid().forget(), 0);
    }

    @Says(promise = 1, words = "A GUEST as a text on a PAD (48 SIGNS at most, codes 33 to 126)")
    static void padIsEmpty() {
        due("told(0)", new ActsPaid().told(0), 0);
        due("wipe()", new ActsPaid().wipe(), 0);
        due("fault(0)", new ActsPaid().fault(0), 0);
        due("say(97)", new ActsPaid().say('a'), 1);
    }

    @Says(promise = 1, words = "An object is used for at most 512 calls after it has been made")
    static void lastOfAllCalls() {
        ActsPaid x = with(1, "z");
        // with() has made four calls; these are the 5th to the 511th.
        for (int call = 5; call <= 511; call++) {
            due("call " + call, call % 2 == 0 ? x.set(0, 24) : x.set(0, 5), call == 5 || call % 2 == 0 ? 5 : 24);
        }
        due("the 512th call", x.takings(), 5);
        for (int call = 513; call <= 2000; call++) {
            x.say('z');
            x.seen(0, 1, 5);
        }
    }

    // ---- Refusals

    @Says(promise = 1, words = "Calls that are refused answer, the first of these that fits")
    static void unknownAheadOfOutside() {
        Twins.refusedEverywhere("leaves(8, 3)", x -> x.leaves(8, 3), UNKNOWN);
        Twins.refusedEverywhere("other(6, 26)", x -> x.other(6, 26), UNKNOWN);
        Twins.refusedEverywhere("over(8, 2)", x -> x.over(8, 2), UNKNOWN);
        Twins.refusedEverywhere("seen(8, 7, 31)", x -> x.seen(8, 7, 31), UNKNOWN);
        Twins.refusedEverywhere("seen(5, -1, 0)", x -> x.seen(5, -1, 0), UNKNOWN);
        Twins.refusedEverywhere("fits(8, 0, 3)", x -> x.fits(8, 0, 3), UNKNOWN);
        Twins.refusedEverywhere("fits(0, 6, 3)", x -> x.fits(0, 6, 3), UNKNOWN);
    }

    @Says(promise = 1, words = "UNKNOWN -1 (there is no such GUEST, ACT), OUTSIDE -2 (another number is not as told)")
    static void unknownAheadOfNoAndState() {
        Twins.refused("guest(8)", Scene.GRAND, x -> x.guest(8), UNKNOWN);
        Twins.refused("guest(8)", Scene.FILLED, x -> x.guest(8), UNKNOWN);
        Twins.refusedEverywhere("must(0, 0)", x -> x.must(0, 0), UNKNOWN);
    }

    @Says(promise = 1, words = "NO -5 (as told), STATE -3 (as told), FULL -4.")
    static void outsideAheadOfStateAndFull() {
        Twins.refused("restore(2)", Scene.NEW, x -> x.restore(2), OUTSIDE);
        Twins.refused("say(127)", Scene.FILLED, x -> x.say(127), OUTSIDE);
        Twins.refused("seen(0, 7, 0)", Scene.FILLED, x -> x.seen(0, 7, 0), OUTSIDE);
        Twins.refused("seen(0, 0, 31)", Scene.FILLED, x -> x.seen(0, 0, 31), OUTSIDE);
        Twins.refused("seen(5, 0, 0)", Scene.FILLED, x -> x.seen(5, 0, 0), UNKNOWN);
    }

    @Says(promise = 1, words = "They change nothing.")
    static void allRefusedInARow() {
        for (Scene scene : ALL) {
            Twins.refused("how many of all refused calls are not", scene, ActsBoundsTest::askAllToBeRefused, 0);
        }
    }

    private static long askAllToBeRefused(ActsPaid x) {
        long[] answers = {x.acts(0), x.acts(7), x.set(0, 31), x.set(4, 0), x.say(127), x.fault(2), x.guest(8),
            x.leave(8), x.worth(8, 0), x.leaves(8, 0), x.stayed(6), x.fares(3), x.must(0, 0), x.order(-2),
            x.claque(0, 0), x.friends(0, 0), x.seating(-2), x.other(6, 0), x.over(8, 0), x.both(2), x.rests(-2),
            x.seen(8, 0, 0), x.fits(8, 0, 0), x.odds(-1, 0, 0), x.year(0, 0, 0), x.image(2), x.restore(2), x.told(8)};
        long notRefused = 0;
        for (long answer : answers) {
            notRefused += answer < 0 ? 0 : 1;
        }
        return notRefused;
    }

    // ---- acts

    @Says(promise = 2, words = "ACTS 0 to n less 1 (n 1 to 6; 4 at first)")
    static void actsOutside() {
        Twins.bounds("acts", ActsPaid::acts, 1, 6, OUTSIDE, ALL);
    }

    @Says(promise = 2, words = "How many ACTS: which it was.")
    static void actsFromOneToSix() {
        ActsPaid x = new ActsPaid();
        int was = 4;
        for (int n : new int[] {1, 6, 6, 2, 5, 3, 1, 1, 4}) {
            due("acts(" + n + ")", x.acts(n), was);
            due("told(1)", x.told(1), n);
            due("worth of the last act there", x.other(n - 1, 1), 0);
            due("other(" + n + ", 1)", x.other(n, 1), UNKNOWN);
            due("a guest too short", come(x, 0, signs('z', n - 1)), NO);
            due("a guest", come(x, 0, signs('z', n)), 1);
            due("the last act", x.worth(0, n - 1), 35);
            due("one behind it", x.worth(0, n), UNKNOWN);
            was = n;
        }
    }

    @Says(promise = 2, words = "Nobody comes then, the ORDER is by numbers")
    static void nobodyComesThen() {
        for (int n = 1; n <= 6; n++) {
            ActsPaid x = Scene.GRAND.make();
            x.acts(n);
            due("told(2) of " + n, x.told(2), 0);
            due("guests known of " + n, guestsKnown(x), "");
            due("takings() of " + n, x.takings(), 0);
            due("the order of " + n, toldFrom(x, 10, n), "0 1 2 3 4 5".substring(0, 2 * n - 1));
            due("told(10 + " + n + ")", x.told(10 + n), OUTSIDE);
        }
    }

    @Says(promise = 2, words = "the ORDER is by numbers")
    static void orderByNumbersThen() {
        ActsPaid x = with(2);
        play(x, "10");
        x.acts(6);
        due("from two to six", toldFrom(x, 10, 6), "0 1 2 3 4 5");
        play(x, "543210");
        x.acts(1);
        due("from six to one", toldFrom(x, 10, 1), "0");
        x.acts(6);
        due("from one to six", toldFrom(x, 10, 6), "0 1 2 3 4 5");
        play(x, "543210");
        x.acts(6);
        due("from six to six", toldFrom(x, 10, 6), "0 1 2 3 4 5");
    }

    @Says(promise = 2, words = "MUST, FRIENDS, SIGHTS, THE OTHER HOUSE's WORTHS are as at first.")
    static void asAtFirstThen() {
        for (int n : new int[] {1, 6}) {
            ActsPaid x = Scene.FILLED.make();
            x.acts(n);
            x.acts(6);
            due("must by " + n, Twins.must(x), "");
            x = Scene.FILLED.make();
            x.acts(n);
            due("friends by " + n, Twins.friends(x), "");
            x = Scene.FILLED.make();
            x.acts(n);
            due("told(7) by " + n, x.told(7), 0);
            x.acts(6);
            due("forget() by " + n, x.forget(), 0);
            due("worths there by " + n, toldFrom(x, 20, 6), "0 0 0 0 0 0");
            come(x, 0, "zzzzzz");
            due("seen(0, 0, 0) by " + n, x.seen(0, 0, 0), 1);
        }
    }

    @Says(promise = 2, words = "FRIENDS, SIGHTS, THE OTHER HOUSE's WORTHS are as at first.")
    static void noneIsAFriendThen() {
        // Each sits in one of these far from all others, of whom some sit on his left.
        String[] chains = {"BCCDDAAEEFFGGH", "EFFGGHHAABBCCD"};
        String[] rows = {"0 1 2 3 0 4 5 6 7", "0 3 2 1 0 7 6 5 4"};
        for (int chain = 0; chain < chains.length; chain++) {
            ActsPaid x = new ActsPaid();
            for (int guest = 0; guest < 8; guest++) {
                for (int other = 0; other < guest; other++) {
                    x.friends(guest, other);
                }
            }
            x.acts(1);
            for (int guest = 0; guest < 8; guest++) {
                come(x, guest, "z");
            }
            due("no friends", seats(x), "0 0 1 2 3 4 5 6 7");
            befriend(x, chains[chain]);
            due("friends told since", seats(x), rows[chain]);
        }
    }

    @Says(promise = 2, words = "Nothing is promised beyond the answers and state changes described above")
    static void whatActsLeaves() {
        ActsPaid x = Scene.GRAND.make();
        x.set(2, 1);
        x.acts(6);
        due("fares, law, base there", toldFrom(x, 3, 4), "4 1 1 6");
        due("the pad", x.wipe(), 3);
        due("restore(0)", x.restore(0), 1);
        due("told", toldFrom(x, 1, 7), "2 6 5 2 0 5 1");
        due("restore(1)", x.restore(1), 1);
        due("told", toldFrom(x, 1, 7), "6 255 5 2 0 5 1");
    }

    // ---- set

    @Says(promise = 3, words = "BASE (which = 0), STEP (1), THE LAW (2), BASE of THE OTHER HOUSE (3; 5 at first): which it was.")
    static void setOfWhich() {
        Twins.bounds("set(.., 0)", (x, which) -> x.set(which, 0), 0, 3, OUTSIDE, ALL);
        Twins.bounds("set(.., 1)", (x, which) -> x.set(which, 1), 0, 3, OUTSIDE, ALL);
    }

    @Says(promise = 3, words = "BASE (0 to 30; 5 at first)")
    static void setBase() {
        Twins.bounds("set(0, ..)", (x, v) -> x.set(0, v), 0, 30, OUTSIDE, ALL);
        setsBetween(0, 3, 5, 30);
    }

    @Says(promise = 3, words = "STEP (0 to 9; 1 at first)")
    static void setStep() {
        Twins.bounds("set(1, ..)", (x, v) -> x.set(1, v), 0, 9, OUTSIDE, ALL);
        setsBetween(1, 4, 1, 9);
    }

    @Says(promise = 3, words = "who comes in pays FARES of all n.")
    static void setLaw() {
        Twins.bounds("set(2, ..)", (x, v) -> x.set(2, v), 0, 1, OUTSIDE, ALL);
        setsBetween(2, 5, 0, 1);
    }

    @Says(promise = 3, words = "with a BASE of its own")
    static void setBaseThere() {
        Twins.bounds("set(3, ..)", (x, v) -> x.set(3, v), 0, 30, OUTSIDE, ALL);
        setsBetween(3, 6, 5, 30);
    }

    /** From the first one to the most, one less, 1, the least; nothing else is set with it. */
    private static void setsBetween(int which, int what, int first, int most) {
        ActsPaid x = new ActsPaid();
        int was = first;
        for (int v : new int[] {most, most - 1, 1, 0, 0, most}) {
            due("set(" + which + ", " + v + ")", x.set(which, v), was);
            due("told(" + what + ")", x.told(what), v);
            was = v;
        }
        x.set(which, first);
        due("the others", toldFrom(x, 0, 8), "0 4 0 5 1 0 5 0");
    }

    // ---- say, wipe

    @Says(promise = 4, words = "codes 33 to 126")
    static void saySigns() {
        Twins.bounds("say", ActsPaid::say, 33, 126, OUTSIDE, ALL);
        ActsPaid x = new ActsPaid();
        due("say(33)", x.say(33), 1);
        due("say(34)", x.say(34), 2);
        due("say(125)", x.say(125), 3);
        due("say(126)", x.say(126), 4);
    }

    @Says(promise = 4, words = "A sign more: how many.")
    static void sayTillFull() {
        ActsPaid x = new ActsPaid();
        for (int sign = 1; sign <= 48; sign++) {
            due("sign " + sign, x.say('z'), sign);
        }
        due("sign 49", x.say('z'), FULL);
        due("sign 49 again", x.say('!'), FULL);
        due("told(0)", x.told(0), 48);
        due("wipe()", x.wipe(), 48);
        due("the first sign again", x.say('z'), 1);
    }

    @Says(promise = 4, words = "OUTSIDE; FULL.")
    static void sayWhenFull() {
        Twins.refused("say('a')", Scene.FILLED, x -> x.say('a'), FULL);
        Twins.refused("say(33)", Scene.FILLED, x -> x.say(33), FULL);
        Twins.refused("say(126)", Scene.FILLED, x -> x.say(126), FULL);
        Twins.refused("say(32)", Scene.FILLED, x -> x.say(32), OUTSIDE);
    }

    @Says(promise = 5, words = "Signs go: how many there were.")
    static void wipeNoneOneAll() {
        for (int many : new int[] {0, 1, 2, 47, 48}) {
            ActsPaid x = new ActsPaid();
            for (int sign = 0; sign < many; sign++) {
                x.say('a');
            }
            due("wipe() of " + many, x.wipe(), many);
            due("told(0)", x.told(0), 0);
            due("wipe() again", x.wipe(), 0);
            due("fault(0)", x.fault(0), 0);
            due("guest(0)", x.guest(0), NO);
        }
        ActsPaid x = Scene.GRAND.make();
        due("wipe() at GRAND", x.wipe(), 3);
        due("told", toldFrom(x, 0, 8), "0 6 223 4 1 0 6 3");
    }

    // ---- fault

    @Says(promise = 6, words = "(how: 0 GUEST, 1 ORDER)")
    static void faultOfWhat() {
        Twins.bounds("fault", ActsPaid::fault, 0, 1, OUTSIDE, ALL);
        due("a guest", fault(with(1), "a", 0), NONE);
        due("a guest is no order", fault(with(1), "a", 1), 0);
        due("an order", fault(with(1), "0", 1), NONE);
        due("an order is no guest", fault(with(1), "0", 0), 0);
    }

    @Says(promise = 6, words = "a to z (0 to 25) or A to J (-1 to -10)")
    static void signsOfGuests() {
        ActsPaid x = with(1);
        for (char sign = 33; sign <= 126; sign++) {
            boolean worth = sign >= 'a' && sign <= 'z' || sign >= 'A' && sign <= 'J';
            due("fault(0) of " + sign, fault(x, String.valueOf(sign), 0), worth ? NONE : 0);
        }
        for (char sign : NEITHER.toCharArray()) {
            due("first: " + sign, fault(with(6), sign + "zzzzz", 0), 0);
            due("last: " + sign, fault(with(6), "zzzzz" + sign, 0), 5);
            due("alone: " + sign, fault(with(6), String.valueOf(sign), 0), 0);
            due("two of them: " + sign, fault(with(6), "z" + sign + "z" + sign + "zz", 0), 1);
        }
        due("azAJ", fault(with(4), "azAJ", 0), NONE);
    }

    @Says(promise = 6, words = "digits of all ACTS, each once")
    static void signsOfOrders() {
        for (int n = 1; n <= 6; n++) {
            ActsPaid x = with(n);
            for (char sign = 33; sign <= 126; sign++) {
                boolean last = sign == '0' + n - 1;
                due("the last act by " + sign, fault(x, digits(n - 1) + sign, 1), last ? NONE : n - 1);
            }
        }
        ActsPaid x = with(6);
        due("an act twice, at once", fault(x, "001234", 1), 1);
        due("an act twice, at last", fault(x, "123450".substring(0, 5) + "1", 1), 5);
        due("two acts twice", fault(x, "012210", 1), 3);
        due("543210", fault(x, "543210", 1), NONE);
    }

    @Says(promise = 6, words = "the number of signs, if more must come")
    static void tooShort() {
        for (int n = 1; n <= 6; n++) {
            ActsPaid x = with(n);
            for (int many = 0; many < n; many++) {
                due(many + " signs of a guest of " + n, fault(x, signs('z', many), 0), many);
                due(many + " signs of an order of " + n, fault(x, digits(many), 1), many);
            }
        }
    }

    @Says(promise = 6, words = "the place (from 0 on) of the first sign that can not stand there")
    static void tooLong() {
        for (int n = 1; n <= 6; n++) {
            ActsPaid x = with(n);
            due("as many signs of a guest as of " + n, fault(x, signs('J', n), 0), NONE);
            due("one more", fault(x, signs('J', n + 1), 0), n);
            due("as many signs of an order as of " + n, fault(x, digits(n), 1), NONE);
            due("an act more", fault(x, digits(n + 1), 1), n);
            due("one of the acts more", fault(x, digits(n) + "0", 1), n);
            due("48 signs", fault(x, signs('a', 48), 0), n);
            due("48 signs, an order at first", fault(x, digits(n) + signs('0', 48 - n), 1), n);
            due("no fault ahead of the one", fault(x, "K" + signs('a', 47), 0), 0);
        }
    }

    @Says(promise = 6, words = "THE FAULT; NONE.")
    static void faultByActs() {
        ActsPaid x = with(3);
        write(x, "zz");
        due("of three acts", x.fault(0), 2);
        x.acts(2);
        due("of two", x.fault(0), NONE);
        x.acts(1);
        due("of one", x.fault(0), 1);
        Twins.tells("fault(0)", y -> y.fault(0));
        Twins.tells("fault(1)", y -> y.fault(1));
    }

    // ---- guest, leave, worth

    private static ActsPaid grandWithGuest() {
        ActsPaid x = Scene.GRAND.make();
        write(x, "azAJmm");
        return x;
    }

    private static ActsPaid grandWithOrder() {
        ActsPaid x = Scene.GRAND.make();
        write(x, "012345");
        return x;
    }

    @Says(promise = 7, words = "UNKNOWN: 0 to 7; NO: there is a FAULT.")
    static void guestUnknown() {
        Twins.bounds("guest", ActsPaid::guest, 0, 7, UNKNOWN, ALL);
        for (int guest : new int[] {-1, 8, 32, 64, Integer.MIN_VALUE, Integer.MAX_VALUE}) {
            Twins.refused("guest(" + guest + ") with a text", ActsBoundsTest::grandWithGuest, x -> x.guest(guest),
                UNKNOWN);
        }
        ActsPaid x = with(1);
        due("the first", come(x, 0, "a"), 1);
        due("the last", come(x, 7, "a"), 2);
        due("told(2)", x.told(2), 129);
    }

    @Says(promise = 7, words = "NO: there is a FAULT.")
    static void guestByFault() {
        Twins.refusedEverywhere("guest(0)", x -> x.guest(0), NO);
        Twins.refusedEverywhere("guest(7)", x -> x.guest(7), NO);
        Twins.refused("by an order", ActsBoundsTest::grandWithOrder, x -> x.guest(0), NO);
        for (String text : new String[] {"", "z", "zz", "zzzz", "zzzzz", "zzK", "@zz", "z{z", "z`z", "012"}) {
            Twins.refused("guest(1) by '" + text + "'", () -> {
                ActsPaid x = with(3, "abc", "def");
                write(x, text);
                return x;
            }, x -> x.guest(1), NO);
        }
    }

    @Says(promise = 7, words = "A GUEST comes (one who does already: anew), as the PAD tells (it is empty then): how many come.")
    static void guestAnew() {
        ActsPaid x = with(2, "zz");
        due("anew", come(x, 0, "aJ"), 1);
        due("the pad", x.told(0), 0);
        due("at once again", x.guest(0), NO);
        due("worth(0, 0)", x.worth(0, 0), 10);
        due("worth(0, 1)", x.worth(0, 1), 0);
        due("told(2)", x.told(2), 1);
        x.leave(0);
        due("again", come(x, 0, "Az"), 1);
        due("worth(0, 0)", x.worth(0, 0), 9);
        due("worth(0, 1)", x.worth(0, 1), 35);
    }

    @Says(promise = 7, words = "GUESTS 0 to 7 (A to H)")
    static void allGuests() {
        ActsPaid x = with(6);
        for (int guest = 7; guest >= 0; guest--) {
            String text = "aaaaaa".replace('a', (char) ('a' + guest));
            due("guest " + guest, come(x, guest, text), 8 - guest);
        }
        due("told(2)", x.told(2), 255);
        due("anew", come(x, 3, "zzzzzz"), 8);
        for (int guest = 0; guest < 8; guest++) {
            due("worth(" + guest + ", 0)", x.worth(guest, 0), guest == 3 ? 35 : 10 + guest);
            due("worth(" + guest + ", 5)", x.worth(guest, 5), guest == 3 ? 35 : 10 + guest);
        }
    }

    @Says(promise = 8, words = "A GUEST comes no more (SIGHTS, FRIENDS stay): how many come.")
    static void leaveTillNobody() {
        ActsPaid x = with(1, "z", "z", "z", "z", "z", "z", "z", "z");
        for (int guest = 0; guest < 8; guest++) {
            due("leave(" + guest + ")", x.leave(guest), 7 - guest);
            due("told(2)", x.told(2), 255 & ~((2 << guest) - 1));
        }
        due("takings()", x.takings(), 0);
        due("worth(7, 0)", x.worth(7, 0), UNKNOWN);
    }

    @Says(promise = 8, words = "(SIGHTS, FRIENDS stay)")
    static void leaveWithSightsAndFriends() {
        ActsPaid x = with(1, "z", "z", "z");
        for (int sight = 0; sight < 6; sight++) {
            x.seen(2, 1, 20);
        }
        x.friends(2, 0);
        x.leave(2);
        due("sights", x.told(7), 6);
        due("one more of another", x.seen(0, 1, 20), FULL);
        due("who is left", seats(x), "0 0 1");
        due("anew", come(x, 2, "z"), 3);
        due("by his friend", seats(x), "0 0 2 1");
        due("as seen", fitting(x, 2, 0), "5 31 35");
        due("forget()", x.forget(), 6);
    }

    @Says(promise = 8, words = "UNKNOWN: nor did.")
    static void leaveUnknown() {
        Twins.bounds("leave", ActsPaid::leave, 0, 7, UNKNOWN, ALL);
        Twins.refused("leave(5), who left", Scene.GRAND, x -> x.leave(5), UNKNOWN);
        Twins.refused("leave(6), who never came", Scene.SMALL, x -> x.leave(6), UNKNOWN);
        for (int guest = 0; guest < 8; guest++) {
            int nobody = guest;
            Twins.refused("leave(" + guest + ")", Scene.NEW, x -> x.leave(nobody), UNKNOWN);
        }
    }

    @Says(promise = 9, words = "WORTH of an ACT to a GUEST who comes, and 10. UNKNOWN.")
    static void worthUnknown() {
        Twins.bounds("worth of act 0 to", (x, guest) -> x.worth(guest, 0), 0, 7, UNKNOWN, ALL);
        Twins.bounds("worth to 0 of act", (x, act) -> x.worth(0, act), 0, 5, UNKNOWN, Scene.GRAND, Scene.FILLED);
        Twins.bounds("worth to 0 of act", (x, act) -> x.worth(0, act), 0, 0, UNKNOWN, Scene.SMALL);
        Twins.refused("worth(5, 0), who left", Scene.GRAND, x -> x.worth(5, 0), UNKNOWN);
        Twins.refused("worth(0, 0), nobody", Scene.NEW, x -> x.worth(0, 0), UNKNOWN);
        Twins.refused("worth(1, 0), who never came", Scene.SMALL, x -> x.worth(1, 0), UNKNOWN);
    }

    @Says(promise = 9, words = "what it is WORTH to the GUEST: a to z (0 to 25) or A to J (-1 to -10)")
    static void worthLeastAndGreatest() {
        ActsPaid x = with(6, "", "", "", "", "", "", "", "JIAaby");
        int[] worths = {0, 1, 9, 10, 11, 34};
        for (int act = 0; act < 6; act++) {
            due("worth(7, " + act + ")", x.worth(7, act), worths[act]);
        }
        x = with(1, "z");
        due("worth(0, 0)", x.worth(0, 0), 35);
        for (char sign = 'a'; sign <= 'z'; sign++) {
            come(x, 0, String.valueOf(sign));
            due("worth of " + sign, x.worth(0, 0), 10 + sign - 'a');
        }
        for (char sign = 'A'; sign <= 'J'; sign++) {
            come(x, 0, String.valueOf(sign));
            due("worth of " + sign, x.worth(0, 0), 9 - (sign - 'A'));
        }
        Twins.tells("worth(0, 0)", y -> y.worth(0, 0));
    }

    // ---- play

    @Says(promise = 10, words = "The PAD becomes the ORDER (it is empty then): 1.")
    static void playOneAndSix() {
        ActsPaid x = with(1);
        due("play 0", play(x, "0"), 1);
        due("the pad", x.told(0), 0);
        due("at once again", x.play(), NO);
        due("the order", toldFrom(x, 10, 2), "0 -2");
        x = with(6);
        due("play 543210", play(x, "543210"), 1);
        due("the order", toldFrom(x, 10, 7), "5 4 3 2 1 0 -2");
        due("play 012345", play(x, "012345"), 1);
        due("the order", toldFrom(x, 10, 7), "0 1 2 3 4 5 -2");
    }

    @Says(promise = 10, words = "NO: there is a FAULT.")
    static void playByFault() {
        Twins.refused("play()", Scene.NEW, ActsPaid::play, NO);
        Twins.refused("play()", Scene.GRAND, ActsPaid::play, NO);
        Twins.refused("play()", Scene.FILLED, ActsPaid::play, NO);
        Twins.refused("by a guest", ActsBoundsTest::grandWithGuest, ActsPaid::play, NO);
        for (String text : new String[] {"", "2", "20", "200", "203", "2013", "2010", "20/", "2:0", "abc"}) {
            Twins.refused("play() by '" + text + "'", () -> {
                ActsPaid x = with(3, "abc");
                play(x, "120");
                write(x, text);
                return x;
            }, ActsPaid::play, NO);
        }
    }
}
