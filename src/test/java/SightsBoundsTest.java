/** The bounds that the document names of sights, odds, years and images: promises 24 to 31. */
public final class SightsBoundsTest extends Kit {
    private static final Scene[] ALL = Scene.values();
    // Theatres in which guest 0 comes.
    private static final Scene[] WITH_FIRST = {Scene.GRAND, Scene.FILLED, Scene.SMALL};

    public static void main(String[] args) throws Exception {
        holds(SightsBoundsTest.class, 24, 31);
    }

    // ---- seen, forget

    @Says(promise = 24, words = "UNKNOWN: the GUEST does not come; OUTSIDE: e 0 to n, b 0 to 30; FULL.")
    static void seenUnknown() {
        Twins.bounds("seen(.., 0, 0)", (x, guest) -> x.seen(guest, 0, 0), 0, 7, UNKNOWN, ALL);
        Twins.refused("seen(5, 0, 0), who left", Scene.GRAND, x -> x.seen(5, 0, 0), UNKNOWN);
        Twins.refused("seen(0, 0, 0), nobody", Scene.NEW, x -> x.seen(0, 0, 0), UNKNOWN);
        Twins.refused("seen(6, 1, 5), who never came", Scene.SMALL, x -> x.seen(6, 1, 5), UNKNOWN);
        ActsPaid x = with(1, "z", "", "", "", "", "", "", "z");
        due("the first guest", x.seen(0, 0, 0), 1);
        due("the last guest", x.seen(7, 0, 0), 2);
    }

    @Says(promise = 24, words = "OUTSIDE: e 0 to n, b 0 to 30")
    static void seenOutside() {
        Twins.bounds("seen(0, .., 0) of six", (x, e) -> x.seen(0, e, 0), 0, 6, OUTSIDE, Scene.GRAND, Scene.FILLED);
        Twins.bounds("seen(0, .., 0) of one", (x, e) -> x.seen(0, e, 0), 0, 1, OUTSIDE, Scene.SMALL);
        Twins.bounds("seen(0, 0, ..)", (x, b) -> x.seen(0, 0, b), 0, 30, OUTSIDE, WITH_FIRST);
        for (int n = 1; n <= 6; n++) {
            ActsPaid x = with(n, "zzzzzz".substring(0, n));
            due("e 0 of " + n, x.seen(0, 0, 30), 1);
            due("e n of " + n, x.seen(0, n, 0), 2);
            due("e n and 1 of " + n, x.seen(0, n + 1, 0), OUTSIDE);
        }
    }

    @Says(promise = 24, words = "A SIGHT more: how many.")
    static void seenTillFull() {
        ActsPaid x = with(2, "zz", "kk");
        for (int sight = 1; sight <= 6; sight++) {
            due("sight " + sight, x.seen(sight % 2, sight % 3, 5 * sight), sight);
            due("told(7)", x.told(7), sight);
        }
        due("sight 7", x.seen(0, 0, 0), FULL);
        due("forget()", x.forget(), 6);
        due("the first again", x.seen(1, 2, 30), 1);
        Twins.refused("seen(0, 6, 30)", Scene.FILLED, y -> y.seen(0, 6, 30), FULL);
        Twins.refused("seen(7, 0, 0)", Scene.FILLED, y -> y.seen(7, 0, 0), FULL);
    }

    @Says(promise = 25, words = "SIGHTS go: how many there were.")
    static void forgetNoneOneAll() {
        for (int many : new int[] {0, 1, 5, 6}) {
            ActsPaid x = with(1, "k");
            for (int sight = 0; sight < many; sight++) {
                x.seen(0, 1, 9);
            }
            due("forget() of " + many, x.forget(), many);
            due("told(7)", x.told(7), 0);
            due("all fit", fitting(x, 0, 0), "36 0 35");
            due("forget() again", x.forget(), 0);
        }
        ActsPaid x = Scene.GRAND.make();
        due("forget() at GRAND", x.forget(), 3);
        due("told", toldFrom(x, 0, 8), "3 6 223 4 1 0 6 0");
        due("of an image they do not go", x.restore(1), 1);
        due("told(7)", x.told(7), 1);
    }

    // ---- fits

    @Says(promise = 26, words = "FITS: how many (what = 0), the least and 10 (1), the greatest and 10 (2; NONE, if there is none). UNKNOWN; OUTSIDE.")
    static void fitsRefused() {
        Twins.bounds("fits(.., 0, 0)", (x, guest) -> x.fits(guest, 0, 0), 0, 7, UNKNOWN, ALL);
        Twins.bounds("fits(0, .., 0) of six", (x, act) -> x.fits(0, act, 0), 0, 5, UNKNOWN, Scene.GRAND, Scene.FILLED);
        Twins.bounds("fits(0, .., 0) of one", (x, act) -> x.fits(0, act, 0), 0, 0, UNKNOWN, Scene.SMALL);
        Twins.bounds("fits(0, 0, ..)", (x, what) -> x.fits(0, 0, what), 0, 2, OUTSIDE, WITH_FIRST);
        Twins.refused("fits(5, 0, 0), who left", Scene.GRAND, x -> x.fits(5, 0, 0), UNKNOWN);
        Twins.refused("fits(0, 0, 0), nobody", Scene.NEW, x -> x.fits(0, 0, 0), UNKNOWN);
        Twins.refused("fits(0, 0, 3), nobody", Scene.NEW, x -> x.fits(0, 0, 3), UNKNOWN);
        for (int what = 0; what <= 2; what++) {
            int asked = what;
            Twins.tells("fits(0, 0, " + what + ")", x -> x.fits(0, 0, asked));
        }
    }

    private static String fitsBy(String guest, int act, int... sights) {
        ActsPaid x = with(guest.length(), guest);
        for (int i = 0; i + 1 < sights.length; i += 2) {
            x.seen(0, sights[i], sights[i + 1]);
        }
        return fitting(x, 0, act);
    }

    @Says(promise = 26, words = "those WORTHS (-10 to 25) by which")
    static void fitsFromLeastToGreatest() {
        due("nothing seen", fitsBy("k", 0), "36 0 35");
        due("behind 0 at 0: -10 to 0", fitsBy("k", 0, 0, 0), "11 0 10");
        due("behind 1 at 0: 1 to 25", fitsBy("k", 0, 1, 0), "25 11 35");
        due("behind 0 at 24: -10 to 24", fitsBy("k", 0, 0, 24), "35 0 34");
        due("behind 1 at 24: 25", fitsBy("k", 0, 1, 24), "1 35 35");
        due("behind 0 at 25: all", fitsBy("k", 0, 0, 25), "36 0 35");
        due("behind 0 at 30: all", fitsBy("k", 0, 0, 30), "36 0 35");
        // With 25 at last, 16 at 8 and 9: 25 and the first are 17 or less.
        due("behind 0 at 8: -10 to -8", fitsBy("az", 0, 0, 8), "3 0 2");
        due("behind 0 at 7: -10", fitsBy("az", 0, 0, 7), "1 0 0");
    }

    @Says(promise = 26, words = "the greatest and 10 (2; NONE, if there is none)")
    static void fitsNone() {
        due("behind 1 at 25", fitsBy("k", 0, 1, 25), "0 -6 -6");
        due("behind 1 at 30", fitsBy("k", 0, 1, 30), "0 -6 -6");
        due("behind 0 at 6, 25 at last", fitsBy("az", 0, 0, 6), "0 -6 -6");
        due("behind 0 and 1 at 5", fitsBy("k", 0, 0, 5, 1, 5), "0 -6 -6");
        due("behind 1 at 12, 0 at 12 and less", fitsBy("k", 0, 1, 12, 0, 11), "0 -6 -6");
        due("behind 1 at 12, 0 at 13: 13", fitsBy("k", 0, 1, 12, 0, 13), "1 23 23");
        due("six sights, the last one counts", fitsBy("k", 0, 1, 0, 1, 0, 1, 0, 1, 0, 1, 0, 1, 24), "1 35 35");
        due("six sights, the first one counts", fitsBy("k", 0, 1, 24, 1, 0, 1, 0, 1, 0, 1, 0, 1, 0), "1 35 35");
    }

    @Says(promise = 26, words = "STEP, THE LAW, the ORDER as they are")
    static void fitsAsTheyAre() {
        ActsPaid x = with(2, "zk", "zk");
        x.seen(0, 2, 5);
        due("step 1: above 6", fitting(x, 0, 1), "19 17 35");
        due("of another one nothing is seen", fitting(x, 1, 1), "36 0 35");
        x.set(1, 9);
        due("step 9: above 14", fitting(x, 0, 1), "11 25 35");
        x.set(1, 0);
        due("step 0: above 5", fitting(x, 0, 1), "20 16 35");
        x.set(0, 30);
        due("the base is that of then", fitting(x, 0, 1), "20 16 35");
        x.set(2, 1);
        due("law 1: 25 is enough, above -15", fitting(x, 0, 1), "36 0 35");
        x.forget();
        x.seen(0, 1, 5);
        due("law 1: never behind one of two", fitting(x, 0, 1), "0 -6 -6");
        x.set(2, 0);
        due("law 0: up to 5", fitting(x, 0, 1), "16 0 15");
        play(x, "10");
        due("the first act at last: never left out", fitting(x, 0, 1), "0 -6 -6");
        due("the first act itself: up to 5", fitting(x, 0, 0), "16 0 15");
    }

    // ---- odds

    @Says(promise = 27, words = "OUTSIDE: x 0 to 9999, c.")
    static void oddsOutside() {
        Twins.bounds("odds(.., 5, 0)", (x, v) -> x.odds(v, 5, 0), 0, 9999, LOST_OUTSIDE, ALL);
        Twins.bounds("odds(.., 5, 1)", (x, v) -> x.odds(v, 5, 1), 0, 9999, LOST_OUTSIDE, ALL);
        due("odds(9999, 5)", fraction(with(1, "z"), 9999, 5), "0/1");
        due("odds(9998, 5)", fraction(with(1, "z"), 9998, 5), "0/1");
        Twins.tells("odds(1, 3, 0)", x -> x.odds(1, 3, 0));
        Twins.tells("odds(1, 3, 1)", x -> x.odds(1, 3, 1));
    }

    @Says(promise = 27, words = "each GUEST who comes does so with c tenths (0 to 10), each for itself")
    static void oddsByTenths() {
        Twins.bounds("odds(1, .., 0)", (x, c) -> x.odds(1, c, 0), 0, 10, LOST_OUTSIDE, ALL);
        Twins.bounds("odds(0, .., 1)", (x, c) -> x.odds(0, c, 1), 0, 10, LOST_OUTSIDE, ALL);
        String[] one = {"0/1", "1/10", "1/5", "3/10", "2/5", "1/2", "3/5", "7/10", "4/5", "9/10", "1/1"};
        String[] eight = {"0/1", "1/100000000", "1/390625", "6561/100000000", "256/390625", "1/256", "6561/390625",
            "5764801/100000000", "65536/390625", "43046721/100000000", "1/1"};
        ActsPaid x = with(1, "z", "z", "z", "z", "z", "z", "z", "z");
        for (int c = 0; c <= 10; c++) {
            due("one by " + c, fraction(with(1, "z"), 5, c), one[c]);
            due("eight by " + c, fraction(x, 40, c), eight[c]);
            due("any by " + c, fraction(x, 0, c), "1/1");
            due("more than there is by " + c, fraction(x, 41, c), "0/1");
        }
    }

    @Says(promise = 27, words = "that TAKINGS are x or more")
    static void oddsOfJustSoMuch() {
        ActsPaid x = with(1, "z", "z", "z", "a");
        String[] due = {"1/1", "271/1000", "271/1000", "271/1000", "271/1000", "271/1000", "7/250", "7/250", "7/250",
            "7/250", "7/250", "1/1000", "1/1000", "1/1000", "1/1000", "1/1000", "0/1", "0/1"};
        for (int takings = 0; takings < due.length; takings++) {
            due("odds of " + takings, fraction(x, takings, 1), due[takings]);
        }
        x = with(6, "zzzzzz", "zzzzzz", "zzzzzz", "zzzzzz", "zzzzzz", "zzzzzz", "zzzzzz", "zzzzzz");
        x.set(0, 24);
        x.set(1, 0);
        due("all that can be", fraction(x, 1152, 5), "1/256");
        due("one more", fraction(x, 1153, 5), "0/1");
        due("one guest less", fraction(x, 1008, 5), "9/256");
        due("nobody, 0", fraction(with(1), 0, 0), "1/1");
        due("nobody, 1", fraction(with(1), 1, 10), "0/1");
    }

    @Says(promise = 27, words = "Fractions are told in lowest terms by part: 0 the upper, 1 the lower number")
    static void oddsByPart() {
        Twins.bounds("odds(0, 5, ..)", (x, part) -> x.odds(0, 5, part), 0, 1, LOST_OUTSIDE, ALL);
        ActsPaid x = with(1, "z", "a", "a", "a");
        due("5000 of 10000", fraction(x, 1, 5), "1/2");
        due("as it is", fraction(x, 1, 7), "7/10");
        due("nothing", fraction(x, 6, 7), "0/1");
        due("all", fraction(x, 0, 7), "1/1");
    }

    @Says(promise = 27, words = "refused with LOST and the refusal")
    static void oddsRefusedByAll() {
        due("LOST", ActsPaid.LOST, -1000000000000000000L);
        Twins.refusedEverywhere("odds(-1, -1, -1)", x -> x.odds(-1, -1, -1), ActsPaid.LOST + ActsPaid.OUTSIDE);
        Twins.refusedEverywhere("odds(10000, 11, 2)", x -> x.odds(10000, 11, 2), LOST_OUTSIDE);
    }

    // ---- year

    @Says(promise = 28, words = "A YEAR by a seed (0 to 9999) of m evenings (1 to 99)")
    static void yearOutside() {
        Twins.bounds("year(.., 9, 0)", (x, seed) -> x.year(seed, 9, 0), 0, 9999, OUTSIDE, ALL);
        Twins.bounds("year(0, .., 0)", (x, m) -> x.year(0, m, 0), 1, 99, OUTSIDE, ALL);
        Twins.bounds("year(0, .., 1)", (x, m) -> x.year(9999, m, 1), 1, 99, OUTSIDE, ALL);
        Twins.bounds("year(0, 1, ..)", (x, what) -> x.year(0, 1, what), 0, 1, OUTSIDE, ALL);
        Twins.tells("year(0, 99, 0)", x -> x.year(0, 99, 0));
        Twins.tells("year(9999, 99, 1)", x -> x.year(9999, 99, 1));
    }

    private static ActsPaid eightAtFive() {
        return with(1, "z", "z", "z", "z", "z", "z", "z", "z");
    }

    private static String year(ActsPaid x, int seed, int m) {
        return x.year(seed, m, 0) + " " + x.year(seed, m, 1);
    }

    @Says(promise = 28, words = "for each x becomes (75 x and 74) left over by 65537")
    static void yearRoundTheEnd() {
        ActsPaid x = eightAtFive();
        due("0: 74, bits 1 3 6", year(x, 0, 1), "15 15");
        due("1: 149, bits 0 2 4 7", year(x, 1, 1), "20 20");
        due("872: 65474, bits 1 6 7", year(x, 872, 1), "15 15");
        due("873: 65549 is 12, bits 2 3", year(x, 873, 1), "10 10");
        due("872, then 60886: bits 1 2 4 6 7", year(x, 872, 2), "40 25");
        due("873, then 974: bits 1 2 3 6 7", year(x, 873, 2), "35 25");
        due("9999: 749999 is 29092, bits 2 5 7", year(x, 9999, 1), "15 15");
    }

    @Says(promise = 28, words = "of those who come just GUESTS that are bits of x left over by 256 do so")
    static void yearByBits() {
        for (int guest = 0; guest < 8; guest++) {
            String[] guests = {"", "", "", "", "", "", "", ""};
            guests[guest] = "z";
            ActsPaid x = with(1, guests);
            due("74, guest " + guest, x.year(0, 1, 0), (74 >> guest & 1) * 5);
            due("149, guest " + guest, x.year(1, 1, 0), (149 >> guest & 1) * 5);
            due("299 is 256 and 43, guest " + guest, x.year(3, 1, 0), (43 >> guest & 1) * 5);
            due("74, then 5624: 21 times 256 and 248, guest " + guest, x.year(0, 2, 0), (74 >> guest & 1) * 5 + (248 >> guest & 1) * 5);
        }
        due("nobody", year(with(6), 9999, 99), "0 0");
        due("who pays nothing", year(with(1, "a", "a", "a", "a", "a", "a", "a", "a"), 0, 99), "0 0");
    }

    @Says(promise = 28, words = "TAKINGS of all evenings, the greatest of one")
    static void yearOfOneToAllEvenings() {
        ActsPaid x = eightAtFive();
        int seed = 0;
        int all = 0;
        int greatest = 0;
        for (int m = 1; m <= 99; m++) {
            seed = (seed * 75 + 74) % 65537;
            int evening = 5 * Integer.bitCount(seed & 255);
            all += evening;
            greatest = Math.max(greatest, evening);
            due("evenings: " + m, year(x, 0, m), all + " " + greatest);
        }
        due("no evening", x.year(0, 0, 0), OUTSIDE);
        due("an evening more", x.year(0, 100, 1), OUTSIDE);
        x = with(6, "zzzzzz", "zzzzzz", "zzzzzz", "zzzzzz", "zzzzzz", "zzzzzz", "zzzzzz", "zzzzzz");
        x.set(0, 24);
        x.set(1, 0);
        due("the dearest evening", x.year(0, 1, 1), 3 * 144);
        due("99 of them", x.year(0, 99, 0), all / 5 * 144);
    }

    // ---- image, restore

    @Says(promise = 29, words = "All but the PAD is kept in an IMAGE (0, 1): 1. OUTSIDE.")
    static void imageOutside() {
        Twins.bounds("image", ActsPaid::image, 0, 1, OUTSIDE, ALL);
        ActsPaid x = new ActsPaid();
        due("image(0)", x.image(0), 1);
        due("image(1)", x.image(1), 1);
        due("image(0) again", x.image(0), 1);
    }

    @Says(promise = 29, words = "kept in an IMAGE (0, 1)")
    static void imagesOfTheirOwn() {
        ActsPaid x = new ActsPaid();
        x.image(0);
        due("one is kept", x.restore(0), 1);
        due("the other is not", x.restore(1), STATE);
        x = new ActsPaid();
        x.image(1);
        due("the other is not", x.restore(0), STATE);
        due("one is kept", x.restore(1), 1);
        x.set(0, 10);
        x.image(0);
        x.set(0, 20);
        x.image(0);
        x.set(0, 30);
        due("restore(0)", x.restore(0), 1);
        due("what was kept later", x.told(3), 20);
        due("restore(1)", x.restore(1), 1);
        due("what was kept first", x.told(3), 5);
    }

    @Says(promise = 29, words = "All but the PAD is kept")
    static void imageWithoutThePad() {
        for (int signs : new int[] {0, 1, 48}) {
            for (int later : new int[] {0, 1, 48}) {
                ActsPaid x = new ActsPaid();
                write(x, "a".repeat(signs));
                x.image(0);
                due("the pad behind image", x.told(0), signs);
                write(x, "0".repeat(later));
                x.restore(0);
                due("the pad behind restore", x.told(0), later);
                due("its signs", x.fault(1), Math.min(later, 1));
            }
        }
    }

    /** All that an image keeps becomes another one. */
    private static void change(ActsPaid x) {
        x.acts(3);
        come(x, 0, "kkk");
        come(x, 5, "JzJ");
        play(x, "210");
        x.set(0, 30);
        x.set(1, 9);
        x.set(2, 1 - x.told(5));
        x.set(3, 30);
        x.must(1, 2);
        x.friends(3, 6);
        x.friends(5, 6);
        x.other(0, 25);
        x.other(2, 24);
        for (int sight = 0; sight < 6; sight++) {
            x.seen(0, 3, sight);
        }
    }

    @Says(promise = 30, words = "It is as it was when it was kept: 1.")
    static void restoreAsItWas() {
        for (Scene scene : new Scene[] {Scene.NEW, Scene.SMALL, Scene.GRAND}) {
            for (int image = 0; image <= 1; image++) {
                int kept = image;
                Twins.refused("change and restore(" + image + ") at " + scene, () -> {
                    ActsPaid x = scene.make();
                    x.image(kept);
                    x.wipe();
                    return x;
                }, x -> {
                    change(x);
                    int once = x.restore(kept);
                    change(x);
                    return 10 * once + x.restore(kept);
                }, 11);
            }
        }
    }

    @Says(promise = 30, words = "OUTSIDE; STATE: it was not.")
    static void restoreState() {
        Twins.bounds("restore", ActsPaid::restore, 0, 1, OUTSIDE, ALL);
        for (int image = 0; image <= 1; image++) {
            int missing = image;
            Twins.refused("restore(" + image + ")", Scene.NEW, x -> x.restore(missing), STATE);
            Twins.refused("restore(" + image + ")", Scene.SMALL, x -> x.restore(missing), STATE);
            Twins.refused("restore(" + image + "), the other is kept", () -> {
                ActsPaid x = Scene.SMALL.make();
                x.image(1 - missing);
                x.set(0, 7);
                return x;
            }, x -> x.restore(missing), STATE);
        }
        ActsPaid x = new ActsPaid();
        x.acts(2);
        due("acts are no image", x.restore(0), STATE);
        due("restored by nothing", x.told(1), 2);
    }

    // ---- told

    @Says(promise = 31, words = "OUTSIDE (also of ACTS that there are not).")
    static void toldOutside() {
        Twins.refusedEverywhere("told(-1)", x -> x.told(-1), OUTSIDE);
        Twins.refusedEverywhere("told(8)", x -> x.told(8), OUTSIDE);
        Twins.refusedEverywhere("told(9)", x -> x.told(9), OUTSIDE);
        Twins.refusedEverywhere("told(19)", x -> x.told(19), OUTSIDE);
        Twins.bounds("told", ActsPaid::told, 0, 25, OUTSIDE, Scene.GRAND);
        for (int n = 1; n <= 6; n++) {
            for (int what = -2; what <= 40; what++) {
                boolean isTold = what >= 0 && what <= 7 || what >= 10 && what < 10 + n || what >= 20 && what < 20 + n;
                due("whether told(" + what + ") of " + n + " is outside", Boolean.toString(with(n).told(what) == OUTSIDE),
                    Boolean.toString(!isTold));
            }
        }
    }

    @Says(promise = 31, words = "10 on the ORDER (ACTS), 20 on WORTHS there.")
    static void toldOfTheLastAct() {
        for (int n = 1; n <= 6; n++) {
            ActsPaid x = with(n);
            play(x, "543210".substring(6 - n));
            x.other(n - 1, 25);
            due("the first of " + n, x.told(10), n - 1);
            due("the last of " + n, x.told(9 + n), 0);
            due("one behind", x.told(10 + n), OUTSIDE);
            due("worth of the last of " + n, x.told(19 + n), 25);
            due("one behind", x.told(20 + n), OUTSIDE);
        }
    }

    @Says(promise = 31, words = "0 signs, 1 ACTS, 2 GUESTS who come (bits), 3 BASE, 4 STEP, 5 THE LAW, 6 BASE there, 7 SIGHTS")
    static void toldLeastAndMost() {
        ActsPaid x = with(6, "zzzzzz", "zzzzzz", "zzzzzz", "zzzzzz", "zzzzzz", "zzzzzz", "zzzzzz", "zzzzzz");
        int[] most = {30, 9, 1, 30};
        for (int which = 0; which < 4; which++) {
            x.set(which, most[which]);
        }
        for (int sight = 0; sight < 6; sight++) {
            x.seen(sight, 6, 30);
        }
        write(x, "~".repeat(48));
        due("the most", toldFrom(x, 0, 8), "48 6 255 30 9 1 30 6");
        x.acts(1);
        x.wipe();
        for (int which = 0; which < 4; which++) {
            x.set(which, 0);
        }
        due("the least", toldFrom(x, 0, 8), "0 1 0 0 0 0 0 0");
        for (int what = 0; what <= 20; what++) {
            int asked = what;
            Twins.tells("told(" + what + ")", y -> y.told(asked));
        }
    }
}
