/** The bounds that the document names of seats and of the two houses: promises 18 to 23. */
public final class HousesBoundsTest extends Kit {
    private static final Scene[] ALL = Scene.values();
    // Theatres in which guest 0 comes.
    private static final Scene[] WITH_FIRST = {Scene.GRAND, Scene.FILLED, Scene.SMALL};

    public static void main(String[] args) throws Exception {
        holds(HousesBoundsTest.class, 18, 23);
    }

    /** What all seats are, for guests by one act each, z to stay and a to leave at once. */
    private static String seatsOf(String guests, String pairs) {
        ActsPaid x = with(1, guests.split(""));
        befriend(x, pairs);
        return seats(x);
    }

    // ---- friends

    @Says(promise = 18, words = "Two GUESTS are FRIENDS: 1. UNKNOWN: others than 0 to 7, both are one.")
    static void friendsUnknown() {
        Twins.bounds("friends(.., 3)", (x, guest) -> x.friends(guest, 3), 0, 7, UNKNOWN, ALL);
        Twins.bounds("friends(3, ..)", (x, guest) -> x.friends(3, guest), 0, 7, UNKNOWN, ALL);
        Twins.bounds("friends of both", (x, guest) -> x.friends(guest, guest), 0, -1, UNKNOWN, ALL);
    }

    @Says(promise = 18, words = "both are one")
    static void friendsOfOneself() {
        for (int guest = 0; guest < 8; guest++) {
            int both = guest;
            Twins.refused("friends of both " + guest, Scene.NEW, x -> x.friends(both, both), UNKNOWN);
            Twins.refused("friends of both " + guest, Scene.GRAND, x -> x.friends(both, both), UNKNOWN);
        }
        due("the first and the last", new ActsPaid().friends(0, 7), 1);
        due("the last and the first", new ActsPaid().friends(7, 0), 1);
    }

    @Says(promise = 18, words = "FRIENDS, told by twos (none at first), sit side by side, if both come.")
    static void friendsWhoDoNotCome() {
        ActsPaid x = new ActsPaid();
        befriend(x, "ADADDACB");
        due("nobody", seats(x), "0");
        come(x, 0, "zzzz");
        come(x, 1, "zzzz");
        due("A and B", seats(x), "0 0 1");
        come(x, 3, "zzzz");
        due("A, B and D", seats(x), "0 0 3 1");
        come(x, 2, "zzzz");
        due("all four", seats(x), "0 0 3 1 2");
        x.leave(0);
        due("not A", seats(x), "0 1 2 3");
    }

    // ---- seating

    @Says(promise = 19, words = "SEATING: how many rise (i = -1), the i-th GUEST; NONE: by no order, there are not so many.")
    static void seatingNotSoMany() {
        Twins.bounds("seating", ActsPaid::seating, -1, -1, NONE, Scene.NEW);
        Twins.bounds("seating", ActsPaid::seating, -1, 1, NONE, Scene.SMALL);
        Twins.bounds("seating", ActsPaid::seating, -1, 6, NONE, Scene.GRAND, Scene.FILLED);
        StringBuilder row = new StringBuilder("0");
        ActsPaid x = with(1);
        for (int guest = 0; guest < 8; guest++) {
            come(x, guest, "z");
            row.append(' ').append(guest);
            due("guests to " + guest, seats(x), row.toString());
            due("the last seat", x.seating(guest), guest);
            due("one behind the last seat", x.seating(guest + 1), NONE);
        }
        for (int i = -1; i <= 1; i++) {
            int asked = i;
            Twins.tells("seating(" + i + ")", y -> y.seating(asked));
        }
    }

    @Says(promise = 19, words = "NONE: by no order, there are not so many.")
    static void seatingByNoOrder() {
        due("two friends", seatsOf("zzz", "AC"), "0 0 2 1");
        due("a chain of three", seatsOf("zzz", "ACCB"), "0 0 2 1");
        due("a ring of three", seatsOf("zzz", "ACCBBA"), "-6");
        due("two friends of one", seatsOf("zzzz", "ACAD"), "0 1 2 0 3");
        due("three friends of one", seatsOf("zzzz", "ACADAB"), "-6");
        due("a chain of four", seatsOf("zzzz", "ACCBBD"), "0 0 2 1 3");
        due("a ring of four", seatsOf("zzzz", "ACCBBDDA"), "-6");
        due("a chain of eight", seatsOf("zzzzzzzz", "AHHBBGGCCFFDDE"), "0 0 7 1 6 2 5 3 4");
        due("a ring of eight", seatsOf("zzzzzzzz", "AHHBBGGCCFFDDEEA"), "-6");
        due("a ring of three of eight", seatsOf("zzzzzzzz", "FGGHHF"), "-6");
        ActsPaid x = with(1, "z", "z", "z", "z");
        befriend(x, "ABACAD");
        for (int i = -2; i <= 8; i++) {
            due("seating(" + i + ")", x.seating(i), NONE);
        }
        x.leave(3);
        due("if two of them come", seats(x), "0 1 0 2");
    }

    @Says(promise = 19, words = "Each who LEAVES behind e ACTS (0, too) makes rise those who sit still")
    static void seatingWhoLeavesAtOnce() {
        due("in the middle of two", seatsOf("azz", "ABAC"), "1 1 0 2");
        due("by one", seatsOf("azz", "AB"), "0 0 1 2");
        due("in the middle, and two leave", seatsOf("aaz", "ABAC"), "0 1 0 2");
        due("in the middle, and all leave", seatsOf("aaa", "ABAC"), "0 1 0 2");
        due("all leave", seatsOf("aaaaaaaa", "AHHB"), "0 0 7 1 2 3 4 5 6");
    }

    @Says(promise = 19, words = "(who LEAVE behind more ACTS)")
    static void seatingWhoLeavesLater() {
        // Behind 0, 1, 2, 3 of three acts; A sits between two.
        String[] guests = {"aaa", "gaa", "gha", "ghi"};
        for (int first = 0; first < 4; first++) {
            for (int second = 0; second < 4; second++) {
                ActsPaid x = with(3, guests[first], guests[second], guests[3]);
                befriend(x, "ABAC");
                int due = first < second && first < 3 ? 1 : 0;
                due("behind " + first + " by " + second + " and 3", seats(x), due + " 1 0 2");
            }
        }
    }

    @Says(promise = 19, words = "who stays to the end makes none rise")
    static void seatingWhoStays() {
        due("in the middle", seatsOf("zzzzz", "BAACBDCE"), "0 3 1 0 2 4");
        due("one act of one: all stay", seatsOf("zz", "AB"), "0 0 1");
        ActsPaid x = with(2, "zz", "zz", "zz");
        befriend(x, "ABAC");
        due("all stay", seats(x), "0 1 0 2");
        come(x, 0, "za");
        due("one leaves behind the first act", seats(x), "1 1 0 2");
        x.set(2, 1);
        due("law 1: one stays", seats(x), "0 1 0 2");
        come(x, 0, "la");
        due("law 1: one does not come in", seats(x), "1 1 0 2");
    }

    @Says(promise = 19, words = "on that side of his seat on which fewer do")
    static void seatingTheSideOfFewer() {
        due("one and one", seatsOf("azz", "BAAC"), "1 1 0 2");
        due("two and one", seatsOf("azzz", "DBBAAC"), "1 2 0 1 3");
        due("two and two", seatsOf("azzzz", "DBBAACCE"), "2 3 1 0 2 4");
        due("three and two", seatsOf("azzzzz", "FDDBBAACCE"), "2 4 2 0 1 3 5");
        due("four and three", seatsOf("azzzzzzz", "FDDBBAACCEEGGH"), "3 5 3 1 0 2 4 6 7");
        due("none and seven", seatsOf("azzzzzzz", "ABBCCDDEEFFGGH"), "0 0 1 2 3 4 5 6 7");
        due("who leave at once do not rise: two, by one and one", seatsOf("azaaz", "DBBAACCE"), "2 3 1 0 2 4");
        due("who leave at once do not rise: three, by none and one", seatsOf("aaaaz", "DBBAACCE"), "0 3 1 0 2 4");
    }

    @Says(promise = 19, words = "SEATING: the order by which the fewest rise in all; the first by letters.")
    static void seatingTheFirstByLetters() {
        due("one", seatsOf("a", ""), "0 0");
        due("two leave", seatsOf("aa", ""), "0 0 1");
        due("one of two", seatsOf("za", ""), "0 0 1");
        due("who leaves by a wall", seatsOf("zaz", ""), "0 0 2 1");
        due("two by two walls", seatsOf("zaaz", ""), "0 0 3 1 2");
        due("the last ones first", seatsOf("zzz", "ACAB"), "0 1 0 2");
        due("eight", seatsOf("zazazaza", ""), "0 0 2 4 6 1 3 5 7");
    }

    // ---- other

    @Says(promise = 20, words = "WORTH of an ACT there (of that played j-th): which it was. UNKNOWN; OUTSIDE.")
    static void otherUnknown() {
        Twins.bounds("other(.., 0)", (x, j) -> x.other(j, 0), 0, 3, UNKNOWN, Scene.NEW);
        Twins.bounds("other(.., 9)", (x, j) -> x.other(j, 9), 0, 0, UNKNOWN, Scene.SMALL);
        Twins.bounds("other(.., 25)", (x, j) -> x.other(j, 25), 0, 5, UNKNOWN, Scene.GRAND, Scene.FILLED);
        Twins.refusedEverywhere("other(6, 26)", x -> x.other(6, 26), UNKNOWN);
        Twins.refusedEverywhere("other(-1, -1)", x -> x.other(-1, -1), UNKNOWN);
    }

    @Says(promise = 20, words = "each WORTH some v (0 to 25; 0 at first) to everybody")
    static void otherOutside() {
        Twins.bounds("other(0, ..)", (x, v) -> x.other(0, v), 0, 25, OUTSIDE, ALL);
        Twins.bounds("other(5, ..)", (x, v) -> x.other(5, v), 0, 25, OUTSIDE, Scene.GRAND);
        for (int n = 1; n <= 6; n++) {
            ActsPaid x = with(n);
            due("25", x.other(n - 1, 25), 0);
            due("24", x.other(n - 1, 24), 25);
            due("1", x.other(n - 1, 1), 24);
            due("0", x.other(n - 1, 0), 1);
            due("0 again", x.other(n - 1, 0), 0);
            due("25 of the first", x.other(0, 25), 0);
            due("worths there", toldFrom(x, 20, n), "25 0 0 0 0 0".substring(0, n == 1 ? 2 : 2 * n));
        }
    }

    // ---- over

    private static ActsPaid twoHouses(int base, int baseThere, int step, String guest, int... there) {
        ActsPaid x = with(guest.length(), guest);
        x.set(0, base);
        x.set(1, step);
        x.set(3, baseThere);
        for (int j = 0; j < there.length; j++) {
            x.other(j, there[j]);
        }
        return x;
    }

    private static String overBy(int base, int baseThere, int step, String guest, int... there) {
        return goes(twoHouses(base, baseThere, step, guest, there), 0);
    }

    @Says(promise = 21, words = "Of a GUEST who comes: e (what = 0), f (1). UNKNOWN; OUTSIDE.")
    static void overRefused() {
        Twins.bounds("over(.., 0)", (x, guest) -> x.over(guest, 0), 0, 7, UNKNOWN, ALL);
        Twins.bounds("over(.., 1)", (x, guest) -> x.over(guest, 1), 0, 7, UNKNOWN, ALL);
        Twins.bounds("over(0, ..)", (x, what) -> x.over(0, what), 0, 1, OUTSIDE, WITH_FIRST);
        Twins.refused("over(5, 0), who left", Scene.GRAND, x -> x.over(5, 0), UNKNOWN);
        Twins.refused("over(5, 2), who left", Scene.GRAND, x -> x.over(5, 2), UNKNOWN);
        Twins.refused("over(0, 0), nobody", Scene.NEW, x -> x.over(0, 0), UNKNOWN);
        Twins.tells("over(0, 0)", x -> x.over(0, 0));
        Twins.tells("over(7, 1)", x -> x.over(7, 1));
    }

    @Says(promise = 21, words = "till f ACTS are over in all (e to n)")
    static void overFromNoneToAll() {
        due("neither", overBy(5, 5, 1, "aaaaaa"), "0 0");
        due("here to the end", overBy(5, 5, 1, "zzzzzz"), "6 6");
        due("here, one", overBy(5, 5, 1, "zaaaaa"), "1 1");
        due("there to the end", overBy(5, 5, 1, "aaaaaa", 25, 25, 25, 25, 25, 25), "0 6");
        due("there, one", overBy(5, 5, 1, "aaaaaa", 25), "0 1");
        due("one act, here", overBy(5, 5, 1, "z"), "1 1");
        due("one act, there", overBy(5, 5, 1, "z", 25), "0 1");
        due("one here, five there", overBy(5, 5, 0, "zaaaaa", 0, 25, 25, 25, 25, 25), "1 6");
        due("none here, and back home early", overBy(5, 5, 0, "aaaaaa", 9, 9, 9, 9, 9, 0), "0 5");
    }

    @Says(promise = 21, words = "one may come in behind any ACT")
    static void overBehindAnyAct() {
        String[] due = {"0 6", "1 6", "2 6", "3 6", "4 6", "5 6", "6 6"};
        for (int e = 0; e <= 6; e++) {
            int[] there = new int[6];
            StringBuilder guest = new StringBuilder();
            for (int j = 0; j < 6; j++) {
                there[j] = j < e ? 0 : 9;
                guest.append(j < e ? 'j' : 'a');
            }
            due("behind " + e, overBy(5, 5, 0, guest.toString(), there), due[e]);
        }
        due("for the last act alone, over an act worth nothing", overBy(0, 5, 0, "aaaaaa", 0, 0, 0, 0, 0, 6), "5 6");
        due("at 1 and 5 others of 1: 0 at last", overBy(1, 5, 0, "aaaaaa", 0, 0, 0, 0, 0, 10), "0 0");
        due("at 1 and 5 others of 1: 1 at last", overBy(1, 5, 0, "aaaaaa", 0, 0, 0, 0, 0, 11), "5 6");
    }

    @Says(promise = 21, words = "so that all WORTHS less all that is paid is most, the least e, then the least f")
    static void overTheLeast() {
        due("4 at 5 there", overBy(5, 5, 1, "a", 4), "0 0");
        due("5 at 5 there", overBy(5, 5, 1, "a", 5), "0 0");
        due("6 at 5 there", overBy(5, 5, 1, "a", 6), "0 1");
        due("5 at 5 here", overBy(5, 5, 1, "f"), "0 0");
        due("6 at 5 here", overBy(5, 5, 1, "g"), "1 1");
        due("as much here as there", overBy(5, 5, 1, "k", 10), "0 1");
        due("more here", overBy(5, 5, 1, "l", 10), "1 1");
        due("more there", overBy(5, 5, 1, "k", 11), "0 1");
        due("more there, asked more", overBy(5, 6, 1, "k", 11), "0 1");
        due("more there, asked still more", overBy(5, 7, 1, "k", 11), "1 1");
        due("the second there, 5 at 6", overBy(5, 5, 1, "aa", 10, 5), "0 1");
        due("the second there, 6 at 6", overBy(5, 5, 1, "aa", 10, 6), "0 1");
        due("the second there, 7 at 6", overBy(5, 5, 1, "aa", 10, 7), "0 2");
        due("the second here, 6 at 6", overBy(5, 5, 1, "kg"), "1 1");
        due("the second here, 7 at 6", overBy(5, 5, 1, "kh"), "2 2");
        due("over for the second, 5 at 5", overBy(5, 5, 1, "ka", 0, 5), "1 1");
        due("over for the second, 6 at 5", overBy(5, 5, 1, "ka", 0, 6), "1 2");
        due("over or not, as much: less here", overBy(5, 5, 0, "kk", 0, 10), "1 2");
        due("there at once, as much: least here", overBy(5, 5, 0, "kk", 10, 10), "0 2");
    }

    @Says(promise = 21, words = "(STEP is one for both)")
    static void overByOneStep() {
        due("two here at 0 and 9, one each at 0", overBy(0, 0, 9, "kk", 0, 10), "1 2");
        due("two there at 0 and 9, one each at 0", overBy(0, 0, 9, "ka", 10, 10), "1 2");
        due("dearer there by 8", overBy(0, 8, 9, "kk", 0, 10), "1 2");
        due("dearer there by 9", overBy(0, 9, 9, "kk", 0, 10), "1 2");
        due("dearer there by 10", overBy(0, 10, 9, "kk", 0, 10), "2 2");
    }

    @Says(promise = 21, words = "A GUEST (THE LAW being taken as 0 here) has the first e ACTS here")
    static void overByLawZero() {
        ActsPaid x = twoHouses(5, 5, 1, "zaJ", 0, 10, 0);
        for (int law = 0; law <= 1; law++) {
            x.set(2, law);
            due("by law " + law, goes(x, 0), "1 2");
            due("here by law " + law, x.both(0), 5);
            due("there by law " + law, x.both(1), 5);
        }
        due("without the other house", ofGuest(x, 0), "0 0 0");
    }

    @Says(promise = 21, words = "has there those from the one played as (e and 1)th on")
    static void overByTheOrder() {
        ActsPaid x = twoHouses(5, 5, 1, "zaa", 0, 0, 9);
        due("the last one there", goes(x, 0), "1 1");
        x.other(2, 12);
        due("over an act worth nothing there", goes(x, 0), "1 3");
        x.other(2, 11);
        due("5 at 5 and 6", goes(x, 0), "1 1");
        play(x, "120");
        due("25 at last: for 18", goes(x, 0), "3 3");
        x.other(2, 22);
        due("or 22 at last there: for 5 here, 11 there", goes(x, 0), "3 3");
        x.other(2, 23);
        due("or 23 at last there", goes(x, 0), "1 3");
    }

    // ---- both

    @Says(promise = 22, words = "TAKINGS with both houses: here (what = 0), there (1). OUTSIDE.")
    static void bothRefused() {
        Twins.bounds("both", ActsPaid::both, 0, 1, OUTSIDE, ALL);
        due("nobody here", new ActsPaid().both(0), 0);
        due("nobody there", new ActsPaid().both(1), 0);
        Twins.tells("both(0)", x -> x.both(0));
        Twins.tells("both(1)", x -> x.both(1));
    }

    @Says(promise = 22, words = "TAKINGS with both houses")
    static void bothOfNoneToAll() {
        ActsPaid x = with(6, "", "", "", "", "", "", "", "zzzzzz");
        due("one, all here", x.both(0) + " " + x.both(1), "45 0");
        for (int guest = 0; guest < 7; guest++) {
            come(x, guest, "zzzzzz");
        }
        due("eight, all here", x.both(0) + " " + x.both(1), "360 0");
        x.set(0, 30);
        due("too dear here", x.both(0) + " " + x.both(1), "0 0");
        x.set(1, 0);
        x.set(3, 24);
        for (int j = 0; j < 6; j++) {
            x.other(j, 25);
        }
        due("eight, all there", x.both(0) + " " + x.both(1), "0 1152");
        x.set(3, 25);
        due("too dear there", x.both(0) + " " + x.both(1), "0 0");
        x.set(0, 24);
        due("as dear here", x.both(0) + " " + x.both(1), "1152 0");
        x.set(3, 24);
        due("as dear here and there", x.both(0) + " " + x.both(1), "0 1152");
    }

    // ---- rests

    @Says(promise = 23, words = "RESTS: how many (i = -1), the i-th; NONE (i below -1, too).")
    static void restsNone() {
        Twins.bounds("rests", ActsPaid::rests, -1, 99, NONE, Scene.NEW);
        due("nobody: how many", new ActsPaid().rests(-1), 100);
        for (int i = 0; i < 100; i++) {
            due("nobody: rests(" + i + ")", new ActsPaid().rests(i), i);
        }
        due("nobody: one behind", new ActsPaid().rests(100), NONE);
        ActsPaid x = twoHouses(5, 5, 1, "kkkk", 9, 9, 9, 9);
        due("none", resting(x), "0");
        due("rests(-2)", x.rests(-2), NONE);
        due("rests(1)", x.rests(1), NONE);
        Twins.bounds("rests", ActsPaid::rests, -1, Scene.GRAND.make().rests(-1) - 1, NONE, Scene.GRAND, Scene.FILLED);
        for (int i = -1; i <= 0; i++) {
            int asked = i;
            Twins.tells("rests(" + i + ")", y -> y.rests(asked));
        }
    }

    @Says(promise = 23, words = "BASE here, BASE there (0 to 9 each)")
    static void restsAtTheLastBase() {
        due("25 here: 24 is not asked", resting(with(1, "z")), "10 90 91 92 93 94 95 96 97 98 99");
        due("10 here", resting(with(1, "k")), "10 90 91 92 93 94 95 96 97 98 99");
        due("9 here", resting(with(1, "j")), "10 80 81 82 83 84 85 86 87 88 89");
        due("25 there", resting(twoHouses(5, 5, 1, "a", 25)), "10 9 19 29 39 49 59 69 79 89 99");
        due("9 there", resting(twoHouses(5, 5, 1, "a", 9)), "10 8 18 28 38 48 58 68 78 88 98");
        due("9 by the last step, at 0 alone", resting(twoHouses(5, 5, 9, "ak")), "10 0 1 2 3 4 5 6 7 8 9");
        due("9 there by the last step, at 0 alone", resting(twoHouses(5, 5, 9, "Ja", 0, 10)),
            "10 0 10 20 30 40 50 60 70 80 90");
        ActsPaid x = twoHouses(30, 30, 1, "z");
        due("as bases are 30", resting(x), "10 90 91 92 93 94 95 96 97 98 99");
        due("the bases stay", toldFrom(x, 3, 1) + " " + toldFrom(x, 6, 1), "30 30");
    }

    @Says(promise = 23, words = "so that neither house would take more by another BASE (0 to 9) of its own")
    static void restsByNeitherMore() {
        due("as good", resting(twoHouses(5, 5, 1, "c", 2)), "11 0 1 11 21 31 41 51 61 71 81 91");
        due("1 in each: nothing can be taken", twoHouses(5, 5, 0, "b", 1).rests(-1), 100);
        // There only 0 is ever paid; here 1, if there is not as good for nothing.
        due("2 here, 1 there", resting(twoHouses(5, 5, 1, "c", 1)),
            "19 0 10 11 12 13 14 15 16 17 18 19 20 30 40 50 60 70 80 90");
    }
}
