/** The bounds that the document names of evenings, fares and orders: promises 11 to 17. */
public final class EveningsBoundsTest extends Kit {
    private static final Scene[] ALL = Scene.values();
    // Theatres in which guest 0 comes.
    private static final Scene[] WITH_FIRST = {Scene.GRAND, Scene.FILLED, Scene.SMALL};

    public static void main(String[] args) throws Exception {
        holds(EveningsBoundsTest.class, 11, 17);
    }

    private static ActsPaid priced(int base, int step, int law, String guest) {
        ActsPaid x = with(guest.length(), guest);
        x.set(0, base);
        x.set(1, step);
        x.set(2, law);
        return x;
    }

    // ---- leaves

    @Says(promise = 11, words = "Of a GUEST who comes: ACTS behind which it LEAVES (what = 0), what it pays (1), what it has (2).")
    static void leavesRefused() {
        Twins.bounds("leaves(.., 0)", (x, guest) -> x.leaves(guest, 0), 0, 7, UNKNOWN, ALL);
        Twins.bounds("leaves(0, ..)", (x, what) -> x.leaves(0, what), 0, 2, OUTSIDE, WITH_FIRST);
        Twins.refused("leaves(5, 0), who left", Scene.GRAND, x -> x.leaves(5, 0), UNKNOWN);
        Twins.refused("leaves(7, 2), nobody", Scene.NEW, x -> x.leaves(7, 2), UNKNOWN);
        Twins.refused("leaves(5, 3), who left", Scene.GRAND, x -> x.leaves(5, 3), UNKNOWN);
        due("leaves(7, 2), the last guest", Scene.SMALL.make().leaves(7, 2), 2);
    }

    @Says(promise = 11, words = "A GUEST LEAVES behind e ACTS (0 to n; of those played first)")
    static void leavesBehindNoneToAll() {
        due("none of one", ofGuest(with(1, "a"), 0), "0 0 0");
        due("one of one", ofGuest(with(1, "z"), 0), "1 5 20");
        String[] behind = {"0 0 0", "1 5 20", "2 11 39", "3 18 57", "4 26 74", "5 35 90", "6 45 105"};
        for (int e = 0; e <= 6; e++) {
            String worths = "zzzzzz".substring(0, e) + "JJJJJJ".substring(e);
            due("of six, by " + worths, ofGuest(with(6, worths), 0), behind[e]);
        }
    }

    @Says(promise = 11, words = "so that WORTHS of these less what is paid is most, the least e of several")
    static void leavesTheLeastOfSeveral() {
        due("4 at 5", ofGuest(with(1, "e"), 0), "0 0 0");
        due("5 at 5", ofGuest(with(1, "f"), 0), "0 0 0");
        due("6 at 5", ofGuest(with(1, "g"), 0), "1 5 1");
        due("and 5 at 6", ofGuest(with(2, "gf"), 0), "1 5 1");
        due("and 6 at 6", ofGuest(with(2, "gg"), 0), "1 5 1");
        due("and 7 at 6", ofGuest(with(2, "gh"), 0), "2 11 2");
        due("what is lost is not won back", ofGuest(with(2, "ak"), 0), "0 0 0");
        due("what is lost is just won back", ofGuest(with(2, "al"), 0), "0 0 0");
        due("more is won back", ofGuest(with(2, "am"), 0), "2 11 1");
        due("1, 0, 0", ofGuest(with(3, "gfh"), 0), "1 5 1");
        due("1, 0, 1", ofGuest(with(3, "gfi"), 0), "1 5 1");
        due("1, 0, 2", ofGuest(with(3, "gfj"), 0), "3 18 2");
        due("0, 0, 0, 0, 0, 0", ofGuest(with(6, "fghijk"), 0), "0 0 0");
        due("0, 0, 0, 0, 0, 1", ofGuest(with(6, "fghijl"), 0), "6 45 1");
        due("1, 1, 1, 1, 1, 1", ofGuest(with(6, "gghijk"), 0), "1 5 1");
    }

    @Says(promise = 11, words = "the j-th ACT (j from 0 on) that one has in a house costs BASE and j times STEP")
    static void leavesByFares() {
        due("all for nothing", ofGuest(priced(0, 0, 0, "bbbbbb"), 0), "6 0 6");
        due("nothing for nothing", ofGuest(priced(0, 0, 0, "aaaaaa"), 0), "0 0 0");
        due("1 for nothing, at first", ofGuest(priced(0, 0, 0, "baaaaa"), 0), "1 0 1");
        due("1 for nothing, at last", ofGuest(priced(0, 0, 0, "aaaaab"), 0), "6 0 1");
        due("0, 9, 18, 27", ofGuest(priced(0, 9, 0, "zzzzzz"), 0), "3 27 48");
        due("0, 5, 10, 15, 20, 25", ofGuest(priced(0, 5, 0, "zzzzzz"), 0), "5 50 75");
        due("0, 4, 8, 12, 16, 20", ofGuest(priced(0, 4, 0, "zzzzzz"), 0), "6 60 90");
        due("24 each", ofGuest(priced(24, 0, 0, "zzzzzz"), 0), "6 144 6");
        due("25 each", ofGuest(priced(25, 0, 0, "zzzzzz"), 0), "0 0 0");
        due("30 and more", ofGuest(priced(30, 9, 0, "zzzzzz"), 0), "0 0 0");
    }

    @Says(promise = 11, words = "n, if WORTHS of all less FARES of all is above 0")
    static void leavesByLawOne() {
        due("4 less 5", ofGuest(priced(5, 1, 1, "e"), 0), "0 0 0");
        due("5 less 5", ofGuest(priced(5, 1, 1, "f"), 0), "0 0 0");
        due("6 less 5", ofGuest(priced(5, 1, 1, "g"), 0), "1 5 1");
        due("10 less 11", ofGuest(priced(5, 1, 1, "ka"), 0), "0 0 0");
        due("11 less 11", ofGuest(priced(5, 1, 1, "la"), 0), "0 0 0");
        due("12 less 11", ofGuest(priced(5, 1, 1, "ma"), 0), "2 11 1");
        due("44 less 45", ofGuest(priced(5, 1, 1, "zbbbbp"), 0), "0 0 0");
        due("45 less 45", ofGuest(priced(5, 1, 1, "zbbbbq"), 0), "0 0 0");
        due("46 less 45", ofGuest(priced(5, 1, 1, "zbbbbr"), 0), "6 45 1");
        due("less than 0", ofGuest(priced(0, 0, 1, "JJJJJJ"), 0), "0 0 0");
        due("0 less 0", ofGuest(priced(0, 0, 1, "aaaaaa"), 0), "0 0 0");
        due("1 less 0", ofGuest(priced(0, 0, 1, "aaabaa"), 0), "6 0 1");
        due("150 less 144", ofGuest(priced(24, 0, 1, "zzzzzz"), 0), "6 144 6");
    }

    @Says(promise = 11, words = "by LAW 1 e is 0 (paying nothing) or n")
    static void leavesAllOrNothingByLawOne() {
        due("law 0: the first alone", ofGuest(priced(5, 1, 0, "zA"), 0), "1 5 20");
        due("law 1: both", ofGuest(priced(5, 1, 1, "zA"), 0), "2 11 13");
        due("law 0: the first alone", ofGuest(priced(5, 1, 0, "gaaaaa"), 0), "1 5 1");
        due("law 1: none", ofGuest(priced(5, 1, 1, "gaaaaa"), 0), "0 0 0");
        Twins.tells("leaves(0, 0)", x -> x.leaves(0, 0));
        Twins.tells("leaves(0, 1)", x -> x.leaves(0, 1));
        Twins.tells("leaves(0, 2)", x -> x.leaves(0, 2));
    }

    // ---- takings, stayed

    @Says(promise = 12, words = "TAKINGS: what all pay.")
    static void takingsOfNoneToAll() {
        ActsPaid x = with(6);
        x.set(0, 24);
        x.set(1, 0);
        due("nobody", x.takings(), 0);
        for (int guest = 0; guest < 8; guest++) {
            come(x, guest, "zzzzzz");
            due("guests to " + guest, x.takings(), 144 * (guest + 1));
        }
        x.set(2, 1);
        due("by law 1", x.takings(), 1152);
        x.set(0, 25);
        due("nobody pays by law 1", x.takings(), 0);
        x.set(2, 0);
        due("nobody pays", x.takings(), 0);
        x.set(0, 0);
        due("for nothing", x.takings(), 0);
        due("takings at NEW", Scene.NEW.make().takings(), 0);
        Twins.tells("takings()", ActsPaid::takings);
    }

    @Says(promise = 13, words = "STAYED: through the ACT played j-th. UNKNOWN.")
    static void stayedUnknown() {
        Twins.bounds("stayed", ActsPaid::stayed, 0, 3, UNKNOWN, Scene.NEW);
        Twins.bounds("stayed", ActsPaid::stayed, 0, 0, UNKNOWN, Scene.SMALL);
        Twins.bounds("stayed", ActsPaid::stayed, 0, 5, UNKNOWN, Scene.GRAND, Scene.FILLED);
        for (int n = 1; n <= 6; n++) {
            due("the last of " + n, with(n).stayed(n - 1), 0);
            due("one behind the last of " + n, with(n).stayed(n), UNKNOWN);
        }
    }

    @Says(promise = 13, words = "how many sat through the ACT played j-th")
    static void stayedThroughTheLastOne() {
        ActsPaid x = with(6, "zzzzzz", "zzzzzz", "zzzzza", "zzzzaa", "zzzaaa", "zzaaaa", "zaaaaa", "aaaaaa");
        int[] stayed = {7, 6, 5, 4, 3, 2};
        for (int j = 0; j < 6; j++) {
            due("stayed(" + j + ")", x.stayed(j), stayed[j]);
        }
        play(x, "543210");
        // Played at last, 25 are less than the 45 that all acts cost; 50 are more.
        due("stayed(0), the last act first", x.stayed(0), 6);
        due("stayed(5), the first act last", x.stayed(5), 6);
        Twins.tells("stayed(0)", y -> y.stayed(0));
    }

    // ---- fares

    @Says(promise = 14, words = "FARES that bring most: BASE (what = 0), STEP (1), TAKINGS (2). OUTSIDE.")
    static void faresRefused() {
        Twins.bounds("fares", ActsPaid::fares, 0, 2, OUTSIDE, ALL);
        for (int what = 0; what <= 2; what++) {
            int asked = what;
            Twins.tells("fares(" + what + ")", x -> x.fares(asked));
        }
    }

    @Says(promise = 14, words = "by which TAKINGS are most")
    static void faresOfOneAct() {
        due("nobody", bestFares(with(1)), "0 0 0");
        due("less than 0", bestFares(with(1, "J")), "0 0 0");
        due("0", bestFares(with(1, "a")), "0 0 0");
        due("1", bestFares(with(1, "b")), "0 0 0");
        due("2", bestFares(with(1, "c")), "1 0 1");
        due("25", bestFares(with(1, "z")), "24 0 24");
        due("eight times 25", bestFares(with(1, "z", "z", "z", "z", "z", "z", "z", "z")), "24 0 192");
        due("six times 25", bestFares(with(6, "zzzzzz")), "24 0 144");
    }

    @Says(promise = 14, words = "BASE and STEP (all 31 times 10)")
    static void faresAtTheLastStep() {
        due("0 and 9: 9 of 10", bestFares(with(2, "ak")), "0 9 9");
        // There is no 0 and 10.
        due("1 and 8: 10 of 11", bestFares(with(2, "al")), "1 8 10");
        due("8 and 9: 25 of 26", bestFares(with(2, "bz")), "8 9 25");
        for (int base : new int[] {0, 30}) {
            for (int step : new int[] {0, 9}) {
                ActsPaid x = priced(base, step, 0, "bz");
                due("as fares are " + base + " and " + step, bestFares(x), "8 9 25");
                due("the fares", toldFrom(x, 3, 2), base + " " + step);
            }
        }
    }

    @Says(promise = 14, words = "of several the least by 10 times BASE and STEP")
    static void faresTheLeastOfSeveral() {
        due("any step of one act", bestFares(with(1, "k")), "9 0 9");
        due("2 and 9: 13 of 14", bestFares(with(2, "ao")), "2 9 13");
        // Both leave behind one act at 5; or one of them at 10.
        due("10 of one, 5 of two", bestFares(with(1, "l", "g")), "5 0 10");
        due("11 of one, 5 of two", bestFares(with(1, "m", "g")), "11 0 11");
        due("any fares bring nothing", bestFares(with(6, "JJJJJJ")), "0 0 0");
    }

    // ---- must, order

    @Says(promise = 15, words = "UNKNOWN: also both are one; STATE: then no order would keep all.")
    static void mustUnknown() {
        Twins.bounds("must(.., 0)", (x, act) -> x.must(act, 0), 1, 3, UNKNOWN, Scene.NEW);
        Twins.bounds("must(0, ..)", (x, act) -> x.must(0, act), 1, 3, UNKNOWN, Scene.NEW);
        Twins.bounds("must(.., 1)", (x, act) -> x.must(act, 1), 0, 5, UNKNOWN, Scene.GRAND, Scene.FILLED);
        Twins.bounds("must(1, ..)", (x, act) -> x.must(1, act), 0, 5, UNKNOWN, Scene.GRAND, Scene.FILLED);
        Twins.bounds("must(0, ..)", (x, act) -> x.must(0, act), 1, 0, UNKNOWN, Scene.SMALL);
        Twins.bounds("must of both", (x, act) -> x.must(act, act), 1, 0, UNKNOWN, ALL);
        for (int act = 0; act < 6; act++) {
            int both = act;
            Twins.refused("must of both " + act, Scene.GRAND, x -> x.must(both, both), UNKNOWN);
        }
    }

    @Says(promise = 15, words = "One ACT MUST be played ahead of another one: 1.")
    static void mustTheFirstAndTheLast() {
        for (int n = 2; n <= 6; n++) {
            ActsPaid x = with(n);
            due("must(n - 1, 0) of " + n, x.must(n - 1, 0), 1);
            due("the first act of the first order", x.order(0), 1);
            due("once more", x.must(n - 1, 0), 1);
            due("the other way round", x.must(0, n - 1), STATE);
        }
        ActsPaid x = with(4);
        x.must(0, 1);
        x.must(1, 2);
        due("what must be anyway", x.must(0, 2), 1);
    }

    private static ActsPaid chained() {
        ActsPaid x = with(6, "abcdef", "zzzaaa");
        for (int act = 0; act < 5; act++) {
            x.must(act, act + 1);
        }
        return x;
    }

    @Says(promise = 15, words = "STATE: then no order would keep all.")
    static void mustNoCircle() {
        for (int act = 0; act < 6; act++) {
            for (int other = 0; other < act; other++) {
                int last = act;
                int first = other;
                Twins.refused("must(" + act + ", " + other + ") of a chain of six", EveningsBoundsTest::chained,
                    x -> x.must(last, first), STATE);
                due("must(" + other + ", " + act + ")", chained().must(other, act), 1);
            }
        }
        Twins.refused("a circle of four at GRAND", Scene.GRAND, x -> x.must(1, 2), STATE);
        Twins.refused("a circle of two at GRAND", Scene.GRAND, x -> x.must(5, 4), STATE);
        due("no circle at GRAND", Scene.GRAND.make().must(2, 1), 1);
        due("no circle at GRAND", Scene.GRAND.make().must(1, 0), 1);
    }

    @Says(promise = 15, words = "MUST: pairs of ACTS of which one is played ahead of the other (some time).")
    static void mustJoinsChains() {
        ActsPaid x = with(6);
        x.must(0, 1);
        x.must(4, 5);
        x.must(2, 3);
        due("the middle to the last", x.must(3, 4), 1);
        due("the last to the middle", x.must(5, 2), STATE);
        due("the first to the middle", x.must(1, 2), 1);
        due("the last to the first", x.must(5, 0), STATE);
        due("the one order", orders(x), "0 0 1 2 3 4 5");
    }

    @Says(promise = 16, words = "ORDER that brings most: TAKINGS (i = -1), the i-th ACT; NONE.")
    static void orderNone() {
        Twins.bounds("order", ActsPaid::order, -1, 3, NONE, Scene.NEW);
        Twins.bounds("order", ActsPaid::order, -1, 0, NONE, Scene.SMALL);
        Twins.bounds("order", ActsPaid::order, -1, 5, NONE, Scene.GRAND, Scene.FILLED);
        due("one act, nobody", orders(with(1)), "0 0");
        due("one act", orders(with(1, "z")), "5 0");
        due("two acts", orders(with(2)), "0 0 1");
        due("six acts, nobody", orders(with(6)), "0 0 1 2 3 4 5");
        for (int i = -1; i <= 1; i++) {
            int asked = i;
            Twins.tells("order(" + i + ")", x -> x.order(asked));
        }
    }

    @Says(promise = 16, words = "of all orders that keep MUST; the first by digits")
    static void orderTheFirstByDigits() {
        due("any order", orders(with(3, "zzz")), "18 0 1 2");
        due("just the last act is worth it", orders(with(6, "aaaaag")), "5 5 0 1 2 3 4");
        due("just the first", orders(with(6, "gaaaaa")), "5 0 1 2 3 4 5");
        ActsPaid x = with(6, "gaaaaa");
        x.must(5, 0);
        due("5 first, then 0 costs 6", orders(x), "0 1 2 3 4 5 0");
        x = with(6, "zzzzzz");
        for (String played : new String[] {"543210", "102345", "012354"}) {
            play(x, played);
            due("any order, as is played " + played, orders(x), "45 0 1 2 3 4 5");
        }
        x = chained();
        x.acts(6);
        for (int act = 5; act > 0; act--) {
            x.must(act, act - 1);
        }
        due("the last of all orders is the one", orders(x), "0 5 4 3 2 1 0");
        play(x, "012345");
        due("not that which is played", orders(x), "0 5 4 3 2 1 0");
        due("the order stays", toldFrom(x, 10, 6), "0 1 2 3 4 5");
    }

    // ---- claque

    @Says(promise = 17, words = "CLAQUE: v (1 to 25) more that one ACT is WORTH to all who come")
    static void claqueRefused() {
        Twins.bounds("claque(.., 0)", (x, v) -> x.claque(v, 0), 1, 25, OUTSIDE, ALL);
        Twins.bounds("claque(.., 1)", (x, v) -> x.claque(v, 1), 1, 25, OUTSIDE, ALL);
        due("v 1: 6 at 5", weeping(with(1, "f"), 1), "0 5");
        due("v 1: 5 at 5", weeping(with(1, "e"), 1), "0 0");
        due("v 25: 15 at 5", weeping(with(1, "J"), 25), "0 5");
        due("v 25: 25 at 24", weeping(priced(24, 0, 0, "a"), 25), "0 24");
        due("v 25: 25 at 25", weeping(priced(25, 0, 0, "a"), 25), "0 0");
    }

    @Says(promise = 17, words = "CLAQUE: the ACT (what = 0), TAKINGS then (1). OUTSIDE.")
    static void claqueOfWhat() {
        Twins.bounds("claque(1, ..)", (x, what) -> x.claque(1, what), 0, 1, OUTSIDE, ALL);
        Twins.bounds("claque(25, ..)", (x, what) -> x.claque(25, what), 0, 1, OUTSIDE, ALL);
        Twins.tells("claque(25, 0)", x -> x.claque(25, 0));
        Twins.tells("claque(25, 1)", x -> x.claque(25, 1));
    }

    @Says(promise = 17, words = "the ACT by which TAKINGS are most, the first; TAKINGS then.")
    static void claqueTheFirst() {
        due("nobody", weeping(with(6), 25), "0 0");
        due("one act", weeping(with(1, "J"), 1), "0 0");
        due("any act is as good", weeping(with(6, "zzzzzz"), 1), "0 45");
        due("one stays till the act at which they weep", weeping(with(6, "fghijk"), 1), "5 45");
        due("just the last of six", weeping(priced(5, 0, 0, "gggggf"), 1), "5 30");
        due("just the first of six", weeping(priced(5, 0, 0, "eaaaaa"), 2), "0 5");
        due("just the second of six", weeping(priced(5, 0, 0, "geaaaa"), 2), "1 10");
        due("law 1: any act is as good", weeping(priced(5, 0, 1, "aka"), 6), "0 15");
        due("law 1: one less", weeping(priced(5, 0, 1, "aka"), 5), "0 0");
    }

    @Says(promise = 17, words = "more that one ACT is WORTH to all who come")
    static void claqueBeyondTheGreatestWorth() {
        due("25 and 5 at 30", weeping(priced(30, 0, 0, "z"), 5), "0 0");
        due("25 and 6 at 30", weeping(priced(30, 0, 0, "z"), 6), "0 30");
        ActsPaid x = priced(30, 9, 1, "zzzzzz");
        due("law 1: 175 less 315", weeping(x, 25), "0 0");
        due("the worths", ofGuest(x, 0), "0 0 0");
        x = with(1, "z", "a", "a");
        x.leave(0);
        due("to who left it is worth nothing", weeping(x, 6), "0 10");
    }
}
