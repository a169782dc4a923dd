/** What each promise says, one method a promise: ordinary inputs, the named edges, wrong inputs. */
public final class PromisesTest extends Kit {
    private static final int[] FAR = {Integer.MIN_VALUE, -1000, -2, 100000, Integer.MAX_VALUE};

    public static void main(String[] args) {
        for (int promise = 1; promise <= 31; promise++) {
            about("promise " + promise);
            test(promise);
        }
        end("promises 1 to 31 hold");
    }

    private static void test(int promise) {
        switch (promise) {
            case 1: newObject(); break;
            case 2: acts(); break;
            case 3: set(); break;
            case 4: say(); break;
            case 5: wipe(); break;
            case 6: fault(); break;
            case 7: guest(); break;
            case 8: leave(); break;
            case 9: worth(); break;
            case 10: play(); break;
            case 11: leaves(); break;
            case 12: takings(); break;
            case 13: stayed(); break;
            case 14: fares(); break;
            case 15: must(); break;
            case 16: order(); break;
            case 17: claque(); break;
            case 18: friends(); break;
            case 19: seating(); break;
            case 20: other(); break;
            case 21: over(); break;
            case 22: both(); break;
            case 23: rests(); break;
            case 24: seen(); break;
            case 25: forget(); break;
            case 26: fits(); break;
            case 27: odds(); break;
            case 28: year(); break;
            case 29: image(); break;
            case 30: restore(); break;
            default: told(); break;
        }
    }

    private static void newObject() {
        ActsPaid x = new ActsPaid();
        due("told", toldFrom(x, 0, 8), "0 4 0 5 1 0 5 0");
        due("the order", toldFrom(x, 10, 4), "0 1 2 3");
        due("worths there", toldFrom(x, 20, 4), "0 0 0 0");
        for (int guest = 0; guest < 8; guest++) {
            due("leave(" + guest + ")", x.leave(guest), UNKNOWN);
        }
        due("restore(0)", x.restore(0), STATE);
        due("restore(1)", x.restore(1), STATE);
    }

    private static void acts() {
        ActsPaid x = new ActsPaid();
        due("acts(6)", x.acts(6), 4);
        due("acts(1)", x.acts(1), 6);
        due("acts(0)", x.acts(0), OUTSIDE);
        due("acts(7)", x.acts(7), OUTSIDE);
        for (int far : FAR) {
            due("acts(" + far + ")", x.acts(far), OUTSIDE);
        }
        due("told(1)", x.told(1), 1);
        due("acts(3)", x.acts(3), 1);
        actsAnew();
    }

    /** By the same number, too, all goes but the fares, the law, the pad and the images. */
    private static void actsAnew() {
        ActsPaid x = with(3, "zzz", "zzz", "zzz");
        x.set(0, 7);
        x.set(1, 2);
        x.set(2, 1);
        x.set(3, 9);
        play(x, "210");
        x.must(0, 1);
        x.must(1, 2);
        x.friends(0, 1);
        x.friends(0, 2);
        x.friends(0, 3);
        x.other(1, 8);
        x.seen(0, 3, 1);
        x.image(1);
        write(x, "kk");
        due("acts(3)", x.acts(3), 3);
        due("told", toldFrom(x, 0, 8), "2 3 0 7 2 1 9 0");
        due("the order", toldFrom(x, 10, 3), "0 1 2");
        due("worths there", toldFrom(x, 20, 3), "0 0 0");
        due("must(1, 0)", x.must(1, 0), 1);
        due("must(2, 1)", x.must(2, 1), 1);
        for (int guest = 0; guest < 4; guest++) {
            come(x, guest, "zzz");
        }
        due("no friends", seats(x), "0 0 1 2 3");
        due("forget()", x.forget(), 0);
        // 1 and 2 leave at once; 0 sits far from 1, whose friend it was.
        come(x, 1, "aaa");
        come(x, 2, "aaa");
        x.friends(1, 3);
        x.friends(2, 0);
        due("other friends", seats(x), "0 1 3 0 2");
        due("restore(1)", x.restore(1), 1);
        due("told(2)", x.told(2), 7);
    }

    private static void set() {
        ActsPaid x = new ActsPaid();
        int[] first = {5, 1, 0, 5};
        int[] most = {30, 9, 1, 30};
        for (int which = 0; which < 4; which++) {
            String call = "set(" + which + ", ";
            due(call + "most)", x.set(which, most[which]), first[which]);
            due(call + "most and 1)", x.set(which, most[which] + 1), OUTSIDE);
            due(call + "-1)", x.set(which, -1), OUTSIDE);
            for (int far : FAR) {
                due(call + far + ")", x.set(which, far), OUTSIDE);
                due("set(" + far + ", 0)", x.set(far, 0), OUTSIDE);
            }
            due("told", x.told(3 + which), most[which]);
            due(call + "0)", x.set(which, 0), most[which]);
            due("told", x.told(3 + which), 0);
        }
        due("set(4, 0)", x.set(4, 0), OUTSIDE);
        due("set(-1, 0)", x.set(-1, 0), OUTSIDE);
        due("told", toldFrom(x, 0, 8), "0 4 0 0 0 0 0 0");
    }

    private static void say() {
        ActsPaid x = new ActsPaid();
        due("say(32)", x.say(32), OUTSIDE);
        due("say(127)", x.say(127), OUTSIDE);
        for (int far : FAR) {
            due("say(" + far + ")", x.say(far), OUTSIDE);
        }
        due("say(33)", x.say(33), 1);
        due("say(126)", x.say(126), 2);
        for (int i = 3; i <= 48; i++) {
            due("say(97)", x.say(97), i);
        }
        due("say(97)", x.say(97), FULL);
        due("say(127) when full", x.say(127), OUTSIDE);
        due("told(0)", x.told(0), 48);
    }

    private static void wipe() {
        ActsPaid x = new ActsPaid();
        due("wipe()", x.wipe(), 0);
        x.say('a');
        x.say('b');
        x.say('c');
        due("wipe()", x.wipe(), 3);
        due("wipe()", x.wipe(), 0);
        due("told(0)", x.told(0), 0);
        due("say(97)", x.say(97), 1);
    }

    private static void fault() {
        ActsPaid x = with(4);
        due("fault(-1)", x.fault(-1), OUTSIDE);
        due("fault(2)", x.fault(2), OUTSIDE);
        for (int far : FAR) {
            due("fault(" + far + ")", x.fault(far), OUTSIDE);
        }
        due("no sign", fault(x, "", 0), 0);
        due("azAJ", fault(x, "azAJ", 0), NONE);
        due("azA", fault(x, "azA", 0), 3);
        due("azAJa", fault(x, "azAJa", 0), 4);
        due("azAJK", fault(x, "azAJK", 0), 4);
        due("aKKa", fault(x, "aKKa", 0), 1);
        due("a{", fault(x, "a{", 0), 1);
        due("a`", fault(x, "a`", 0), 1);
        due("aa@a", fault(x, "aa@a", 0), 2);
        due("0123", fault(x, "0123", 0), 0);
        due("no sign", fault(x, "", 1), 0);
        due("3021", fault(x, "3021", 1), NONE);
        due("302", fault(x, "302", 1), 3);
        due("30211", fault(x, "30211", 1), 4);
        due("3024", fault(x, "3024", 1), 3);
        due("3032", fault(x, "3032", 1), 2);
        due("3/12", fault(x, "3/12", 1), 1);
        due("a012", fault(x, "a012", 1), 0);
        due("P012", fault(x, "P012", 1), 0);
        due("told(0)", x.told(0), 4);
        x = with(1);
        due("0", fault(x, "0", 1), NONE);
        due("1", fault(x, "1", 1), 0);
        due("00", fault(x, "00", 1), 1);
        x = with(6);
        due("543210", fault(x, "543210", 1), NONE);
        due("543216", fault(x, "543216", 1), 5);
    }

    private static void guest() {
        ActsPaid x = with(2);
        due("guest(8)", x.guest(8), UNKNOWN);
        due("guest(-1)", x.guest(-1), UNKNOWN);
        for (int far : FAR) {
            due("guest(" + far + ")", x.guest(far), UNKNOWN);
        }
        due("guest(0), nothing said", x.guest(0), NO);
        due("bB", come(x, 0, "bB"), 1);
        due("the pad is empty", x.told(0), 0);
        due("worth(0, 0)", x.worth(0, 0), 11);
        due("worth(0, 1)", x.worth(0, 1), 8);
        due("zz", come(x, 7, "zz"), 2);
        due("aJ anew", come(x, 0, "aJ"), 2);
        due("worth(0, 0)", x.worth(0, 0), 10);
        due("worth(0, 1)", x.worth(0, 1), 0);
        due("worth(7, 0)", x.worth(7, 0), 35);
        due("aK", come(x, 1, "aK"), NO);
        due("the pad stays", x.told(0), 2);
        due("aaa", come(x, 1, "aaa"), NO);
        due("guest(8), a fault", x.guest(8), UNKNOWN);
        due("told(2)", x.told(2), 129);
        x.seen(7, 2, 0);
        come(x, 7, "aa");
        due("sights stay", x.told(7), 1);
    }

    private static void leave() {
        ActsPaid x = with(2, "zz", "zz", "", "zz");
        due("leave(2)", x.leave(2), UNKNOWN);
        due("leave(-1)", x.leave(-1), UNKNOWN);
        due("leave(8)", x.leave(8), UNKNOWN);
        due("leave(32)", x.leave(32), UNKNOWN);
        for (int far : FAR) {
            due("leave(" + far + ")", x.leave(far), UNKNOWN);
        }
        x.friends(1, 3);
        x.seen(1, 2, 5);
        due("leave(1)", x.leave(1), 2);
        due("leave(1)", x.leave(1), UNKNOWN);
        due("told(2)", x.told(2), 9);
        due("told(7)", x.told(7), 1);
        come(x, 1, "zz");
        come(x, 2, "zz");
        due("friends stay", seats(x), "0 0 1 3 2");
        due("sights stay", fitting(x, 1, 1), "19 17 35");
    }

    private static void worth() {
        ActsPaid x = with(3, "", "azJ");
        due("worth(1, 0)", x.worth(1, 0), 10);
        due("worth(1, 1)", x.worth(1, 1), 35);
        due("worth(1, 2)", x.worth(1, 2), 0);
        due("worth(1, 3)", x.worth(1, 3), UNKNOWN);
        due("worth(1, -1)", x.worth(1, -1), UNKNOWN);
        due("worth(0, 0)", x.worth(0, 0), UNKNOWN);
        due("worth(8, 0)", x.worth(8, 0), UNKNOWN);
        due("worth(-1, 0)", x.worth(-1, 0), UNKNOWN);
        for (int far : FAR) {
            due("worth(" + far + ", 0)", x.worth(far, 0), UNKNOWN);
            due("worth(1, " + far + ")", x.worth(1, far), UNKNOWN);
        }
        play(x, "210");
        due("worth(1, 0), played last", x.worth(1, 0), 10);
        x.leave(1);
        due("worth(1, 0), who left", x.worth(1, 0), UNKNOWN);
    }

    private static void play() {
        ActsPaid x = with(3, "azz");
        due("by numbers", x.leaves(0, 0), 3);
        due("201", play(x, "201"), 1);
        due("the pad is empty", x.told(0), 0);
        due("the order", toldFrom(x, 10, 3), "2 0 1");
        due("211", play(x, "211"), NO);
        due("the pad stays", x.told(0), 3);
        due("21", play(x, "21"), NO);
        due("213", play(x, "213"), NO);
        due("2101", play(x, "2101"), NO);
        due("the order", toldFrom(x, 10, 3), "2 0 1");
        due("120", play(x, "120"), 1);
        due("by 120", x.leaves(0, 0), 2);
        x.must(0, 1);
        due("120 against must", play(x, "120"), 1);
    }

    private static void leaves() {
        // Behind 1, 2, 3, 4 acts: 4, -1, 1, -7 and 0, 0, 0, -8.
        ActsPaid x = with(4, "jbja", "fgha", "zzzz", "AAAA", "ggha");
        due("most behind the first", ofGuest(x, 0), "1 5 4");
        due("nothing above 0", ofGuest(x, 1), "0 0 0");
        due("all", ofGuest(x, 2), "4 26 74");
        due("none", ofGuest(x, 3), "0 0 0");
        due("as much by 1, 2 and 3", ofGuest(x, 4), "1 5 1");
        due("leaves(5, 0)", x.leaves(5, 0), UNKNOWN);
        due("leaves(-1, 0)", x.leaves(-1, 0), UNKNOWN);
        due("leaves(8, 9)", x.leaves(8, 9), UNKNOWN);
        due("leaves(0, 3)", x.leaves(0, 3), OUTSIDE);
        due("leaves(0, -1)", x.leaves(0, -1), OUTSIDE);
        for (int far : FAR) {
            due("leaves(" + far + ", 0)", x.leaves(far, 0), UNKNOWN);
            due("leaves(0, " + far + ")", x.leaves(0, far), OUTSIDE);
        }
        play(x, "2013");
        due("by the order", ofGuest(x, 0), "2 11 7");
        x.set(2, 1);
        due("law 1: 19 less 26", ofGuest(x, 0), "0 0 0");
        due("law 1: 100 less 26", ofGuest(x, 2), "4 26 74");
        come(x, 5, "zbaa");
        due("law 1: 26 less 26", ofGuest(x, 5), "0 0 0");
        come(x, 5, "Azda");
        due("law 1: 27 less 26", ofGuest(x, 5), "4 26 1");
    }

    private static void takings() {
        ActsPaid x = with(3);
        due("nobody", x.takings(), 0);
        come(x, 0, "zzz");
        due("one", x.takings(), 18);
        come(x, 1, "gaa");
        due("two", x.takings(), 23);
        come(x, 2, "aaa");
        due("three", x.takings(), 23);
        x.set(2, 1);
        due("law 1", x.takings(), 18);
        x.leave(0);
        due("law 1, the others", x.takings(), 0);
    }

    private static void stayed() {
        ActsPaid x = with(3, "zzz", "gaa", "aaa");
        due("stayed(0)", x.stayed(0), 2);
        due("stayed(1)", x.stayed(1), 1);
        due("stayed(2)", x.stayed(2), 1);
        due("stayed(3)", x.stayed(3), UNKNOWN);
        due("stayed(-1)", x.stayed(-1), UNKNOWN);
        for (int far : FAR) {
            due("stayed(" + far + ")", x.stayed(far), UNKNOWN);
        }
        x.set(2, 1);
        due("law 1: stayed(0)", x.stayed(0), 1);
        come(x, 1, "gzz");
        due("law 1: stayed(0)", x.stayed(0), 2);
        due("law 1: stayed(2)", x.stayed(2), 2);
    }

    private static void fares() {
        // 12 asked of both are more than 20 asked of one.
        ActsPaid x = with(1, "n", "v");
        due("one act", bestFares(x), "12 0 24");
        due("fares(3)", x.fares(3), OUTSIDE);
        due("fares(-1)", x.fares(-1), OUTSIDE);
        for (int far : FAR) {
            due("fares(" + far + ")", x.fares(far), OUTSIDE);
        }
        due("the fares stay", toldFrom(x, 3, 2), "5 1");
        due("2 times 8 and 9: 25 of 26", bestFares(with(2, "bz")), "8 9 25");
        x = with(2, "zb");
        due("only the first act", bestFares(x), "24 0 24");
        x.set(2, 1);
        due("law 1: 25 of 26", bestFares(x), "8 9 25");
        x.leave(0);
        due("nobody", bestFares(x), "0 0 0");
        x = with(3, "zzz", "zzz");
        due("3 times 24, asked evenly", bestFares(x), "24 0 144");
        x.set(2, 1);
        due("law 1: 3 times 15 and 9: 72 of 75", bestFares(x), "15 9 144");
    }

    private static void must() {
        ActsPaid x = with(4);
        due("must(0, 0)", x.must(0, 0), UNKNOWN);
        due("must(4, 0)", x.must(4, 0), UNKNOWN);
        due("must(0, 4)", x.must(0, 4), UNKNOWN);
        due("must(-1, 0)", x.must(-1, 0), UNKNOWN);
        due("must(0, -1)", x.must(0, -1), UNKNOWN);
        for (int far : FAR) {
            due("must(" + far + ", " + far + ")", x.must(far, far), UNKNOWN);
            due("must(0, " + far + ")", x.must(0, far), UNKNOWN);
        }
        due("must(0, 1)", x.must(0, 1), 1);
        due("must(0, 1) again", x.must(0, 1), 1);
        due("must(1, 0)", x.must(1, 0), STATE);
        due("must(2, 3)", x.must(2, 3), 1);
        due("must(1, 2)", x.must(1, 2), 1);
        due("must(3, 0)", x.must(3, 0), STATE);
        due("must(2, 0)", x.must(2, 0), STATE);
        due("must(3, 1)", x.must(3, 1), STATE);
        due("must(0, 3)", x.must(0, 3), 1);
        due("one order is left", orders(x), "0 0 1 2 3");
        x = with(4);
        x.must(3, 2);
        x.must(1, 0);
        x.must(2, 1);
        due("one order is left", orders(x), "0 3 2 1 0");
        due("must(0, 3)", x.must(0, 3), STATE);
    }

    private static void order() {
        ActsPaid x = with(4);
        due("nobody", orders(x), "0 0 1 2 3");
        due("order(-2)", x.order(-2), NONE);
        due("order(4)", x.order(4), NONE);
        for (int far : FAR) {
            due("order(" + far + ")", x.order(far), NONE);
        }
        // 34 less 26: who is to stay for all four must have the 25 last, at 8.
        x = with(4, "bazi");
        due("the 25 last", orders(x), "26 0 1 3 2");
        x.must(3, 2);
        due("as it was", orders(x), "26 0 1 3 2");
        x.must(2, 0);
        due("the 25 third", orders(x), "18 1 3 2 0");
        due("the order stays", toldFrom(x, 10, 4), "0 1 2 3");
        due("both are paid", orders(with(2, "az")), "11 0 1");
        x = with(2, "ag");
        due("6 at 5", orders(x), "5 1 0");
        x.must(0, 1);
        due("6 not at 6", orders(x), "0 0 1");
        x = with(6, "zzzzzz", "abcdef");
        due("six acts", orders(x), "45 0 1 2 3 4 5");
        x.must(5, 0);
        x.set(2, 1);
        due("law 1: all bring as much", orders(x), "45 1 2 3 4 5 0");
        play(x, "543210");
        due("from the first by digits on", orders(x), "45 1 2 3 4 5 0");
        for (int act = 5; act > 0; act--) {
            x.must(act, act - 1);
        }
        due("the last by digits", orders(x), "45 5 4 3 2 1 0");
        // 9, 7, 4, 0, 0 less 5, 6, 7, 8, 9: none stays for more than three acts.
        x = with(5, "aaejh");
        due("the first of those that bring 18", orders(x), "18 2 4 3 0 1");
    }

    private static void claque() {
        ActsPaid x = with(3, "aaa");
        due("claque(0, 0)", x.claque(0, 0), OUTSIDE);
        due("claque(26, 0)", x.claque(26, 0), OUTSIDE);
        due("claque(1, 2)", x.claque(1, 2), OUTSIDE);
        due("claque(1, -1)", x.claque(1, -1), OUTSIDE);
        for (int far : FAR) {
            due("claque(" + far + ", 0)", x.claque(far, 0), OUTSIDE);
            due("claque(1, " + far + ")", x.claque(1, far), OUTSIDE);
        }
        due("5 at 5", weeping(x, 5), "0 0");
        due("6 at 5", weeping(x, 6), "0 5");
        due("12 at 5 and 6", weeping(x, 12), "1 11");
        due("25 at 5, 6 and 7", weeping(x, 25), "2 18");
        due("the worths stay", x.worth(0, 2), 10);
        come(x, 1, "AAA");
        due("not enough for two", weeping(x, 12), "1 11");
        due("enough for two", weeping(x, 14), "1 22");
        play(x, "210");
        due("by the order", weeping(x, 25), "0 36");
        x = with(2, "zz");
        play(x, "10");
        due("the first by number", weeping(x, 1), "0 11");
        come(x, 0, "aa");
        x.set(2, 1);
        due("law 1: 11 less 11", weeping(x, 11), "0 0");
        due("law 1: 12 less 11", weeping(x, 12), "0 11");
    }

    private static void friends() {
        ActsPaid x = with(1, "z", "z", "z", "z");
        due("friends(0, 0)", x.friends(0, 0), UNKNOWN);
        due("friends(8, 0)", x.friends(8, 0), UNKNOWN);
        due("friends(0, 8)", x.friends(0, 8), UNKNOWN);
        due("friends(-1, 0)", x.friends(-1, 0), UNKNOWN);
        due("friends(0, -1)", x.friends(0, -1), UNKNOWN);
        for (int far : FAR) {
            due("friends(" + far + ", 0)", x.friends(far, 0), UNKNOWN);
            due("friends(0, " + far + ")", x.friends(0, far), UNKNOWN);
        }
        due("no friends", seats(x), "0 0 1 2 3");
        due("friends(7, 6)", x.friends(7, 6), 1);
        due("friends(0, 7)", x.friends(0, 7), 1);
        due("friends(5, 0)", x.friends(5, 0), 1);
        due("who do not come", seats(x), "0 0 1 2 3");
        due("friends(3, 1)", x.friends(3, 1), 1);
        due("friends(1, 3)", x.friends(1, 3), 1);
        due("1 by 3", seats(x), "0 0 1 3 2");
        due("friends(0, 2)", x.friends(0, 2), 1);
        due("0 by 2", seats(x), "0 0 2 1 3");
        due("friends(2, 3)", x.friends(2, 3), 1);
        due("a chain", seats(x), "0 0 2 3 1");
        due("friends(0, 1)", x.friends(0, 1), 1);
        due("a ring", seats(x), "-6");
        x.leave(2);
        due("a chain again", seats(x), "0 0 1 3");
    }

    private static void seating() {
        ActsPaid x = with(3);
        due("nobody", seats(x), "0");
        due("seating(-2)", x.seating(-2), NONE);
        for (int far : FAR) {
            due("seating(" + far + ")", x.seating(far), NONE);
        }
        due("who leave sit by the wall", seats(with(3, "zzz", "aaa", "aaa", "zzz")), "0 0 3 1 2");
        due("three leave", seats(with(3, "zzz", "aaa", "aaa", "zzz", "aaa")), "0 0 3 1 2 4");
        // They leave behind 3, 2, 1, 0 acts.
        x = with(3, "zzz", "zha", "gaa", "aaa");
        due("the sooner the nearer", seats(x), "0 0 1 2 3");
        x.friends(0, 3);
        due("0 by 3", seats(x), "0 2 1 0 3");
        x.friends(0, 2);
        x.friends(3, 1);
        due("a chain", seats(x), "1 1 3 0 2");
        x = with(1, "a", "z", "z");
        x.friends(0, 1);
        x.friends(0, 2);
        due("who leaves in the middle", seats(x), "1 1 0 2");
        x = with(3, "zga", "gaa", "zga");
        due("all behind the first", seats(x), "0 0 1 2");
        x.set(2, 1);
        due("law 1: one does not come in", seats(x), "0 0 2 1");
        x = with(1, "z", "z", "z", "a", "z", "z", "z", "z");
        for (int guest = 0; guest < 5; guest++) {
            x.friends(guest, guest + 1);
        }
        x.friends(6, 7);
        due("eight guests", seats(x), "2 5 4 3 2 1 0 6 7");
    }

    private static void other() {
        ActsPaid x = with(2);
        due("other(0, 25)", x.other(0, 25), 0);
        due("other(0, 0)", x.other(0, 0), 25);
        due("other(1, 7)", x.other(1, 7), 0);
        due("other(1, 26)", x.other(1, 26), OUTSIDE);
        due("other(1, -1)", x.other(1, -1), OUTSIDE);
        due("other(2, 26)", x.other(2, 26), UNKNOWN);
        due("other(-1, 0)", x.other(-1, 0), UNKNOWN);
        for (int far : FAR) {
            due("other(" + far + ", 0)", x.other(far, 0), UNKNOWN);
            due("other(0, " + far + ")", x.other(0, far), OUTSIDE);
        }
        due("worths there", toldFrom(x, 20, 2), "0 7");
        play(x, "10");
        due("of that played so, not of the act", toldFrom(x, 20, 2), "0 7");
    }

    private static void over() {
        ActsPaid x = with(2, "aa", "kk", "zJ", "Jz");
        due("over(4, 0)", x.over(4, 0), UNKNOWN);
        due("over(8, 9)", x.over(8, 9), UNKNOWN);
        due("over(-1, 0)", x.over(-1, 0), UNKNOWN);
        due("over(0, 2)", x.over(0, 2), OUTSIDE);
        due("over(0, -1)", x.over(0, -1), OUTSIDE);
        for (int far : FAR) {
            due("over(" + far + ", 0)", x.over(far, 0), UNKNOWN);
            due("over(0, " + far + ")", x.over(0, far), OUTSIDE);
        }
        due("neither", goes(x, 0), "0 0");
        due("here", goes(x, 1), "2 2");
        due("here, one", goes(x, 2), "1 1");
        x.other(1, 20);
        due("0 at 5, for 20 at 5, not 6", goes(x, 0), "1 2");
        due("10 at 5 and 20 at 5", goes(x, 1), "1 2");
        due("by law 1, too", x.set(2, 1), 0);
        due("10 at 5 and 20 at 5", goes(x, 1), "1 2");
        x.other(1, 5);
        due("as much by 1 or 2 in all: 1", goes(x, 2), "1 1");
        x.other(0, 10);
        x.other(1, 10);
        due("one here, one there", goes(x, 1), "1 2");
        x.set(3, 6);
        due("10 and 10, 5 and 6 either way", goes(x, 1), "1 2");
        x.set(1, 0);
        due("cheaper here", goes(x, 1), "2 2");
        x.set(3, 5);
        due("as much anywhere: there", goes(x, 1), "0 2");
        play(x, "10");
        x.other(0, 4);
        due("by the order", goes(x, 3), "1 2");
    }

    private static void both() {
        ActsPaid x = with(2, "aa", "kk", "zz");
        due("both(2)", x.both(2), OUTSIDE);
        due("both(-1)", x.both(-1), OUTSIDE);
        for (int far : FAR) {
            due("both(" + far + ")", x.both(far), OUTSIDE);
        }
        due("here", x.both(0), 22);
        due("there", x.both(1), 0);
        x.other(1, 20);
        x.set(3, 7);
        // They have 1 and 1, 1 and 1, 2 and 0 acts here and there.
        due("here", x.both(0), 21);
        due("there", x.both(1), 14);
        x.set(2, 1);
        due("law 1 is not asked: here", x.both(0), 21);
        due("law 1 is not asked: there", x.both(1), 14);
        x.set(3, 15);
        // 5 are left by 20 at 15: too little for who loses 5 here first, more than by 10 at 6.
        due("here", x.both(0), 16);
        due("there", x.both(1), 15);
        x = with(1);
        due("nobody: here", x.both(0), 0);
        due("nobody: there", x.both(1), 0);
    }

    private static void rests() {
        ActsPaid x = with(1);
        due("nobody", x.rests(-1), 100);
        due("rests(99)", x.rests(99), 99);
        due("rests(100)", x.rests(100), NONE);
        due("rests(-2)", x.rests(-2), NONE);
        for (int far : FAR) {
            due("rests(" + far + ")", x.rests(far), NONE);
        }
        // Two here, two there, and there of two as good: below each other till 1 is asked there.
        x = with(1, "c");
        x.other(0, 2);
        due("as good", resting(x), "11 0 1 11 21 31 41 51 61 71 81 91");
        x.set(2, 1);
        due("law 1 is not asked", resting(x), "11 0 1 11 21 31 41 51 61 71 81 91");
        due("the bases stay", toldFrom(x, 3, 4), "5 1 1 5");
        x.other(0, 0);
        due("nothing there", resting(x), "10 10 11 12 13 14 15 16 17 18 19");
    }

    private static void seen() {
        ActsPaid x = with(2, "zz", "kk");
        due("seen(2, 0, 0)", x.seen(2, 0, 0), UNKNOWN);
        due("seen(8, 9, 0)", x.seen(8, 9, 0), UNKNOWN);
        due("seen(-1, 0, 0)", x.seen(-1, 0, 0), UNKNOWN);
        due("seen(0, 3, 0)", x.seen(0, 3, 0), OUTSIDE);
        due("seen(0, -1, 0)", x.seen(0, -1, 0), OUTSIDE);
        due("seen(0, 0, 31)", x.seen(0, 0, 31), OUTSIDE);
        due("seen(0, 0, -1)", x.seen(0, 0, -1), OUTSIDE);
        for (int far : FAR) {
            due("seen(" + far + ", 0, 0)", x.seen(far, 0, 0), UNKNOWN);
            due("seen(0, " + far + ", 0)", x.seen(0, far, 0), OUTSIDE);
            due("seen(0, 0, " + far + ")", x.seen(0, 0, far), OUTSIDE);
        }
        due("told(7)", x.told(7), 0);
        due("seen(0, 2, 0)", x.seen(0, 2, 0), 1);
        due("seen(0, 0, 30)", x.seen(0, 0, 30), 2);
        for (int i = 3; i <= 6; i++) {
            due("seen(1, 1, 10)", x.seen(1, 1, 10), i);
        }
        due("seen(0, 0, 0)", x.seen(0, 0, 0), FULL);
        due("seen(0, 3, 0) when full", x.seen(0, 3, 0), OUTSIDE);
        due("seen(2, 0, 0) when full", x.seen(2, 0, 0), UNKNOWN);
        due("told(7)", x.told(7), 6);
    }

    private static void forget() {
        ActsPaid x = with(2, "zz");
        due("forget()", x.forget(), 0);
        x.seen(0, 1, 20);
        x.seen(0, 1, 20);
        due("forget()", x.forget(), 2);
        due("forget()", x.forget(), 0);
        due("told(7)", x.told(7), 0);
        due("all fit", fitting(x, 0, 0), "36 0 35");
        due("seen(0, 2, 0)", x.seen(0, 2, 0), 1);
    }

    private static void fits() {
        ActsPaid x = with(2, "kk", "zz");
        due("fits(2, 0, 0)", x.fits(2, 0, 0), UNKNOWN);
        due("fits(8, 0, 9)", x.fits(8, 0, 9), UNKNOWN);
        due("fits(0, 2, 9)", x.fits(0, 2, 9), UNKNOWN);
        due("fits(0, -1, 0)", x.fits(0, -1, 0), UNKNOWN);
        due("fits(0, 0, 3)", x.fits(0, 0, 3), OUTSIDE);
        due("fits(0, 0, -1)", x.fits(0, 0, -1), OUTSIDE);
        for (int far : FAR) {
            due("fits(" + far + ", 0, 0)", x.fits(far, 0, 0), UNKNOWN);
            due("fits(0, " + far + ", 0)", x.fits(0, far, 0), UNKNOWN);
            due("fits(0, 0, " + far + ")", x.fits(0, 0, far), OUTSIDE);
        }
        due("nothing seen", fitting(x, 0, 0), "36 0 35");
        x.seen(0, 2, 5);
        due("above 1", fitting(x, 0, 0), "24 12 35");
        due("above 6", fitting(x, 0, 1), "19 17 35");
        due("nothing seen of this one", fitting(x, 1, 1), "36 0 35");
        x.seen(0, 1, 12);
        due("above 12", fitting(x, 0, 0), "13 23 35");
        due("none", fitting(x, 0, 1), "0 -6 -6");
        x.set(0, 30);
        due("the base is that of then", fitting(x, 0, 0), "13 23 35");
        due("the base stays", x.told(3), 30);
        due("the worth stays", x.worth(0, 0), 20);
        x.set(2, 1);
        due("law 1: who paid sat through all", fitting(x, 0, 0), "0 -6 -6");
        x.forget();
        x.seen(0, 0, 5);
        due("law 1: up to 1", fitting(x, 0, 0), "12 0 11");
        x.set(1, 9);
        due("the step is that of now", fitting(x, 0, 0), "20 0 19");
    }

    private static void odds() {
        ActsPaid x = with(1, "z", "z", "z", "a");
        long lost = -1000000000000000002L;
        due("odds(-1, 0, 0)", x.odds(-1, 0, 0), lost);
        due("odds(10000, 0, 0)", x.odds(10000, 0, 0), lost);
        due("odds(0, -1, 0)", x.odds(0, -1, 0), lost);
        due("odds(0, 11, 0)", x.odds(0, 11, 0), lost);
        due("odds(0, 0, -1)", x.odds(0, 0, -1), lost);
        due("odds(0, 0, 2)", x.odds(0, 0, 2), lost);
        for (int far : FAR) {
            due("odds(" + far + ", 0, 0)", x.odds(far, 0, 0), lost);
            due("odds(0, " + far + ", 0)", x.odds(0, far, 0), lost);
            due("odds(0, 0, " + far + ")", x.odds(0, 0, far), lost);
        }
        due("two or three of three", fraction(x, 10, 3), "27/125");
        due("two or three of three", fraction(x, 6, 3), "27/125");
        due("one or more", fraction(x, 5, 5), "7/8");
        due("three", fraction(x, 11, 1), "1/1000");
        due("more than three bring", fraction(x, 16, 9), "0/1");
        due("as much as there is", fraction(x, 9999, 10), "0/1");
        due("0 or more", fraction(x, 0, 7), "1/1");
        due("none come", fraction(x, 1, 0), "0/1");
        due("all come", fraction(x, 15, 10), "1/1");
        x = with(1, "z", "z", "z", "z", "z", "z", "z", "z");
        due("eight of eight", fraction(x, 40, 9), "43046721/100000000");
        due("1 of eight or more", fraction(x, 1, 1), "56953279/100000000");
        x.set(0, 30);
        due("nobody pays", fraction(x, 1, 5), "0/1");
        due("nobody comes", fraction(with(1), 0, 5), "1/1");
        due("nobody comes", fraction(with(1), 1, 5), "0/1");
    }

    private static void year() {
        // By seed 0: 74, 5624, 28652: bits 1 3 6; 3 4 5 6 7; 2 3 5 6 7.
        ActsPaid x = with(1, "z", "z", "z", "z", "z", "z", "z", "z");
        due("year(-1, 1, 0)", x.year(-1, 1, 0), OUTSIDE);
        due("year(10000, 1, 0)", x.year(10000, 1, 0), OUTSIDE);
        due("year(0, 0, 0)", x.year(0, 0, 0), OUTSIDE);
        due("year(0, 100, 0)", x.year(0, 100, 0), OUTSIDE);
        due("year(0, 1, -1)", x.year(0, 1, -1), OUTSIDE);
        due("year(0, 1, 2)", x.year(0, 1, 2), OUTSIDE);
        for (int far : FAR) {
            due("year(" + far + ", 1, 0)", x.year(far, 1, 0), OUTSIDE);
            due("year(0, " + far + ", 0)", x.year(0, far, 0), OUTSIDE);
            due("year(0, 1, " + far + ")", x.year(0, 1, far), OUTSIDE);
        }
        due("one evening", x.year(0, 1, 0), 15);
        due("one evening", x.year(0, 1, 1), 15);
        due("three evenings", x.year(0, 3, 0), 65);
        due("the greatest", x.year(0, 3, 1), 25);
        due("29092: bits 2 5 7", x.year(9999, 1, 0), 15);
        due("99 evenings", x.year(0, 99, 1), 35);
        x.leave(3);
        due("without one", x.year(0, 3, 0), 50);
        due("the greatest", x.year(0, 3, 1), 20);
        x = with(1, "z");
        due("who comes on none of three", x.year(0, 3, 0), 0);
        due("the greatest", x.year(0, 3, 1), 0);
    }

    private static void image() {
        ActsPaid x = with(2, "zz");
        due("image(-1)", x.image(-1), OUTSIDE);
        due("image(2)", x.image(2), OUTSIDE);
        for (int far : FAR) {
            due("image(" + far + ")", x.image(far), OUTSIDE);
        }
        due("image(1)", x.image(1), 1);
        due("restore(0)", x.restore(0), STATE);
        x.set(0, 9);
        due("restore(1)", x.restore(1), 1);
        due("told(3)", x.told(3), 5);
        x.set(0, 8);
        due("image(0)", x.image(0), 1);
        x.set(0, 7);
        due("image(1) anew", x.image(1), 1);
        x.set(0, 6);
        x.restore(0);
        due("the one", x.told(3), 8);
        x.restore(1);
        due("the other", x.told(3), 7);
    }

    private static void restore() {
        ActsPaid x = new ActsPaid();
        due("restore(-1)", x.restore(-1), OUTSIDE);
        due("restore(2)", x.restore(2), OUTSIDE);
        for (int far : FAR) {
            due("restore(" + far + ")", x.restore(far), OUTSIDE);
        }
        due("restore(0)", x.restore(0), STATE);
        due("restore(1)", x.restore(1), STATE);
        x = with(3, "zzz", "kkk", "", "bcd");
        play(x, "120");
        x.set(0, 4);
        x.set(1, 2);
        x.set(2, 1);
        x.set(3, 6);
        x.must(2, 1);
        x.friends(0, 3);
        x.other(2, 11);
        x.seen(1, 3, 4);
        x.image(0);
        for (int time = 0; time < 2; time++) {
            for (int which = 0; which < 4; which++) {
                x.set(which, 0);
            }
            x.acts(2);
            come(x, 0, "ab");
            x.must(0, 1);
            x.other(0, 3);
            x.friends(0, 1);
            x.seen(0, 1, 1);
            x.seen(0, 1, 2);
            write(x, "say");
            due("restore(0)", x.restore(0), 1);
            dueAsKept(x);
        }
    }

    private static void dueAsKept(ActsPaid x) {
        due("told, and the pad stays", toldFrom(x, 0, 8), "3 3 11 4 2 1 6 1");
        due("the order", toldFrom(x, 10, 3), "1 2 0");
        due("worths there", toldFrom(x, 20, 3), "0 0 11");
        due("worth(0, 2)", x.worth(0, 2), 35);
        due("worth(1, 0)", x.worth(1, 0), 20);
        due("worth(3, 1)", x.worth(3, 1), 12);
        due("must", orders(x), "36 0 2 1");
        due("friends", seats(x), "0 1 0 3");
        due("sights", fitting(x, 1, 0), "27 9 35");
    }

    private static void told() {
        ActsPaid x = with(2, "", "zz", "", "zz");
        x.set(0, 6);
        x.set(1, 2);
        x.set(2, 1);
        x.set(3, 7);
        x.seen(1, 1, 1);
        play(x, "10");
        x.other(1, 9);
        x.say('x');
        due("told", toldFrom(x, 0, 8), "1 2 10 6 2 1 7 1");
        due("the order", toldFrom(x, 10, 2), "1 0");
        due("worths there", toldFrom(x, 20, 2), "0 9");
        int[] refused = {-1, 8, 9, 12, 13, 16, 19, 22, 23, 26, 29};
        for (int what : refused) {
            due("told(" + what + ")", x.told(what), OUTSIDE);
        }
        for (int far : FAR) {
            due("told(" + far + ")", x.told(far), OUTSIDE);
        }
        x.acts(6);
        due("the order", toldFrom(x, 10, 6), "0 1 2 3 4 5");
        due("told(16)", x.told(16), OUTSIDE);
        due("worths there", toldFrom(x, 20, 6), "0 0 0 0 0 0");
        due("told(26)", x.told(26), OUTSIDE);
    }
}
