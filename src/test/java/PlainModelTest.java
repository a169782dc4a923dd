import java.math.BigInteger;
import java.util.ArrayList;
import java.util.Arrays;
import java.util.List;

/** Long runs of calls on ActsPaid and on a second, plainest writing of the document, compared. */
public final class PlainModelTest {
    private static final int NONE = -6, UNKNOWN = -1, OUTSIDE = -2, STATE = -3, FULL = -4, NO = -5;
    private static final int RUNS = 200;
    private static final int CALLS = 512;

    private static int wrong = 0;

    // The draws of the calls: always the same ones.
    private static long drawn = 20261119;

    private static int draw(int below) {
        drawn = (drawn * 6364136223846793005L + 1442695040888963407L);
        return (int) Math.floorMod(drawn >>> 33, (long) below);
    }

    public static void main(String[] args) {
        int[] refused = new int[32];
        int[] answered = new int[32];
        for (int run = 0; run < RUNS && wrong < 20; run++) {
            compare(run, answered, refused);
        }
        for (int call = 2; call <= 31; call++) {
            if (answered[call] < 100) {
                wrong++;
                System.out.println("call " + call + " was answered too seldom: " + answered[call]);
            }
        }
        System.out.println(wrong == 0 ? RUNS + " runs are as the plain model says" : wrong + " faults");
        if (wrong != 0) {
            System.exit(1);
        }
    }

    private static void compare(int run, int[] answered, int[] refused) {
        ActsPaid x = new ActsPaid();
        Plain plain = new Plain();
        StringBuilder told = new StringBuilder();
        // Some theatres are kept small, so that all ties and friends are met.
        Drawer drawer = new Drawer(run);
        for (int i = 0; i < CALLS && wrong < 20; i++) {
            int[] call = drawer.next(plain);
            long got = Calls.ask(x, call);
            long want = Calls.askPlain(plain, call);
            told.append(Arrays.toString(call)).append(' ').append(want).append('\n');
            if (got != want) {
                wrong++;
                System.out.println("run " + run + ", call " + i + " " + Arrays.toString(call) + " answered " + got
                    + ", the plain model says " + want);
                if (wrong == 1) {
                    System.out.println(told);
                }
                return;
            }
            if (want < 0) {
                refused[call[0]]++;
            } else {
                answered[call[0]]++;
            }
        }
    }

    /** Draws calls: mostly such as are answered, some at the edges and beyond. */
    private static final class Drawer {
        private final int run;
        private final List<int[]> ahead = new ArrayList<>();

        Drawer(int run) {
            this.run = run;
        }

        int[] next(Plain plain) {
            if (!ahead.isEmpty()) {
                return ahead.remove(0);
            }
            int kind = draw(100);
            if (kind < 18) {
                sayGuest(plain);
            } else if (kind < 22) {
                sayOrder(plain);
            } else {
                one(plain);
            }
            return ahead.remove(0);
        }

        private void add(int... call) {
            ahead.add(call);
        }

        private void sayGuest(Plain plain) {
            add(5);
            int style = draw(4);
            for (int i = 0; i < plain.n; i++) {
                int worth = style == 0 ? draw(36) - 10 : style == 1 ? draw(8) + 3 : style == 2 ? draw(12) : draw(26);
                add(4, worth < 0 ? 64 - worth : 97 + worth);
            }
            if (draw(12) == 0) {
                add(4, 33 + draw(94));
            }
            add(6, draw(2));
            add(7, draw(15) == 0 ? draw(12) - 2 : draw(run % 3 == 0 ? 8 : 5));
        }

        private void sayOrder(Plain plain) {
            add(5);
            List<Integer> left = new ArrayList<>();
            for (int i = 0; i < plain.n; i++) {
                left.add(i);
            }
            while (!left.isEmpty()) {
                add(4, 48 + left.remove(draw(left.size())));
            }
            if (draw(8) == 0) {
                add(4, 47 + draw(9));
            }
            add(6, 1);
            add(10);
        }

        private int near(int least, int greatest) {
            switch (draw(24)) {
                case 0: return least - 1;
                case 1: return greatest + 1;
                case 2: return new int[] {Integer.MIN_VALUE, Integer.MAX_VALUE, -7, 99999}[draw(4)];
                default: return least + draw(greatest - least + 1);
            }
        }

        private void one(Plain plain) {
            int last = plain.n - 1;
            int call = draw(29) + 2;
            switch (call) {
                case 2: if (draw(run % 2 == 0 ? 12 : 5) == 0) { add(2, near(1, 6)); } else { add(12); } break;
                case 3: {
                    int which = near(0, 3);
                    int v = which == 1 || draw(2) == 0 ? near(0, 9) : which == 2 ? near(0, 1) : near(0, 30);
                    add(3, which, which == 2 && draw(2) == 0 ? 0 : v);
                    break;
                }
                case 4: add(4, draw(3) == 0 ? near(48, 53) : near(33, 126)); break;
                case 5: if (draw(3) == 0) { add(5); } else { for (int i = draw(9); i >= 0; i--) { add(4, 98); } } break;
                case 6: add(6, near(0, 1)); break;
                case 7: add(7, near(0, 7)); break;
                case 8: add(8, near(0, 7)); break;
                case 9: add(9, near(0, 7), near(0, last)); break;
                case 10: add(10); break;
                case 11: add(11, near(0, 7), near(0, 2)); break;
                case 12: add(12); break;
                case 13: add(13, near(0, last)); break;
                case 14: add(14, 0); add(14, 1); add(14, near(0, 2)); break;
                case 15: if (draw(2) == 0) { add(15, near(0, last), near(0, last)); } else { add(12); } break;
                case 16: for (int i = -2; i <= plain.n; i++) { add(16, i); } break;
                case 17: { int v = near(1, 25); add(17, v, 0); add(17, v, near(0, 1)); break; }
                case 18: if (draw(3) == 0) { add(18, near(0, 7), near(0, 7)); } else { add(12); } break;
                case 19: for (int i = -2; i <= 8; i++) { add(19, i); } break;
                case 20: add(20, near(0, last), near(0, 25)); break;
                case 21: { int guest = near(0, 7); add(21, guest, 0); add(21, guest, near(0, 1)); break; }
                case 22: add(22, 0); add(22, near(0, 1)); break;
                case 23: add(23, -1); add(23, 0); add(23, near(0, 99)); add(23, near(0, 5)); break;
                case 24: seen(plain); break;
                case 25: add(25); break;
                case 26: {
                    int guest = near(0, 7);
                    int act = near(0, last);
                    add(26, guest, act, 0);
                    add(26, guest, act, 1);
                    add(26, guest, act, near(0, 2));
                    break;
                }
                case 27: {
                    int x = draw(3) == 0 ? near(0, 9999) : near(0, 150);
                    int c = near(0, 10);
                    add(27, x, c, 0);
                    add(27, x, c, near(0, 1));
                    break;
                }
                case 28: { int seed = near(0, 9999); int m = near(1, 99); add(28, seed, m, 0); add(28, seed, m, near(0, 1)); break; }
                case 29: add(draw(2) == 0 ? 29 : 31, near(0, 1)); break;
                default: add(30, near(0, 29)); break;
            }
        }

        /** What was seen is mostly what would be, so that some worths fit. */
        private void seen(Plain plain) {
            int guest = near(0, 7);
            int b = near(0, 30);
            int e = near(0, plain.n);
            if (plain.comes(guest) && draw(4) != 0 && b >= 0 && b <= 30) {
                e = plain.behind(plain.line(guest), b, plain.step, plain.law);
            }
            add(24, guest, e, b);
        }
    }

    /** The calls by number: that of the promise, but restore is 31 and told 30. */
    private static final class Calls {
        static long ask(ActsPaid x, int[] c) {
            switch (c[0]) {
                case 2: return x.acts(c[1]);
                case 3: return x.set(c[1], c[2]);
                case 4: return x.say(c[1]);
                case 5: return x.wipe();
                case 6: return x.fault(c[1]);
                case 7: return x.guest(c[1]);
                case 8: return x.leave(c[1]);
                case 9: return x.worth(c[1], c[2]);
                case 10: return x.play();
                case 11: return x.leaves(c[1], c[2]);
                case 12: return x.takings();
                case 13: return x.stayed(c[1]);
                case 14: return x.fares(c[1]);
                case 15: return x.must(c[1], c[2]);
                case 16: return x.order(c[1]);
                case 17: return x.claque(c[1], c[2]);
                case 18: return x.friends(c[1], c[2]);
                case 19: return x.seating(c[1]);
                case 20: return x.other(c[1], c[2]);
                case 21: return x.over(c[1], c[2]);
                case 22: return x.both(c[1]);
                case 23: return x.rests(c[1]);
                case 24: return x.seen(c[1], c[2], c[3]);
                case 25: return x.forget();
                case 26: return x.fits(c[1], c[2], c[3]);
                case 27: return x.odds(c[1], c[2], c[3]);
                case 28: return x.year(c[1], c[2], c[3]);
                case 29: return x.image(c[1]);
                case 31: return x.restore(c[1]);
                default: return x.told(c[1]);
            }
        }

        static long askPlain(Plain x, int[] c) {
            switch (c[0]) {
                case 2: return x.acts(c[1]);
                case 3: return x.set(c[1], c[2]);
                case 4: return x.say(c[1]);
                case 5: return x.wipe();
                case 6: return x.fault(c[1]);
                case 7: return x.guest(c[1]);
                case 8: return x.leave(c[1]);
                case 9: return x.worth(c[1], c[2]);
                case 10: return x.play();
                case 11: return x.leaves(c[1], c[2]);
                case 12: return x.takings();
                case 13: return x.stayed(c[1]);
                case 14: return x.fares(c[1]);
                case 15: return x.must(c[1], c[2]);
                case 16: return x.order(c[1]);
                case 17: return x.claque(c[1], c[2]);
                case 18: return x.friends(c[1], c[2]);
                case 19: return x.seating(c[1]);
                case 20: return x.other(c[1], c[2]);
                case 21: return x.over(c[1], c[2]);
                case 22: return x.both(c[1]);
                case 23: return x.rests(c[1]);
                case 24: return x.seen(c[1], c[2], c[3]);
                case 25: return x.forget();
                case 26: return x.fits(c[1], c[2], c[3]);
                case 27: return x.odds(c[1], c[2], c[3]);
                case 28: return x.year(c[1], c[2], c[3]);
                case 29: return x.image(c[1]);
                case 31: return x.restore(c[1]);
                default: return x.told(c[1]);
            }
        }
    }

    /** The document, written as slowly and plainly as can be. */
    private static final class Plain {
        int n = 4;
        int base = 5;
        int step = 1;
        int law = 0;
        int baseThere = 5;
        String pad = "";
        int[][] worths = new int[8][];
        List<Integer> order = List.of(0, 1, 2, 3);
        int[] there = new int[4];
        List<int[]> must = new ArrayList<>();
        List<int[]> friends = new ArrayList<>();
        List<int[]> sights = new ArrayList<>();
        Plain[] images = new Plain[2];

        void copyTo(Plain to) {
            to.n = n;
            to.base = base;
            to.step = step;
            to.law = law;
            to.baseThere = baseThere;
            for (int g = 0; g < 8; g++) {
                to.worths[g] = worths[g] == null ? null : worths[g].clone();
            }
            to.order = order;
            to.there = there.clone();
            to.must = new ArrayList<>(must);
            to.friends = new ArrayList<>(friends);
            to.sights = new ArrayList<>(sights);
        }

        boolean comes(int g) {
            return g >= 0 && g <= 7 && worths[g] != null;
        }

        int many() {
            int many = 0;
            for (int g = 0; g < 8; g++) {
                many += comes(g) ? 1 : 0;
            }
            return many;
        }

        int acts(int v) {
            if (v < 1 || v > 6) {
                return OUTSIDE;
            }
            int was = n;
            n = v;
            worths = new int[8][];
            List<Integer> numbers = new ArrayList<>();
            for (int i = 0; i < n; i++) {
                numbers.add(i);
            }
            order = numbers;
            there = new int[n];
            must = new ArrayList<>();
            friends = new ArrayList<>();
            sights = new ArrayList<>();
            return was;
        }

        int set(int which, int v) {
            int was;
            if (which == 0 && v >= 0 && v <= 30) {
                was = base;
                base = v;
            } else if (which == 1 && v >= 0 && v <= 9) {
                was = step;
                step = v;
            } else if (which == 2 && (v == 0 || v == 1)) {
                was = law;
                law = v;
            } else if (which == 3 && v >= 0 && v <= 30) {
                was = baseThere;
                baseThere = v;
            } else {
                was = OUTSIDE;
            }
            return was;
        }

        int say(int sign) {
            if (sign < 33 || sign > 126) {
                return OUTSIDE;
            }
            if (pad.length() == 48) {
                return FULL;
            }
            pad += (char) sign;
            return pad.length();
        }

        int wipe() {
            int was = pad.length();
            pad = "";
            return was;
        }

        int fault(int how) {
            if (how != 0 && how != 1) {
                return OUTSIDE;
            }
            // The longest beginning that some right text has.
            for (int i = 0; i < pad.length(); i++) {
                String begun = pad.substring(0, i + 1);
                boolean stands = how == 0 ? begun.matches("[a-zA-J]{1," + n + "}")
                    : begun.matches("[0-" + (n - 1) + "]*") && begun.chars().distinct().count() == begun.length();
                if (!stands) {
                    return i;
                }
            }
            return pad.length() == n ? NONE : pad.length();
        }

        int guest(int g) {
            if (g < 0 || g > 7) {
                return UNKNOWN;
            }
            if (fault(0) != NONE) {
                return NO;
            }
            worths[g] = new int[n];
            for (int a = 0; a < n; a++) {
                char sign = pad.charAt(a);
                worths[g][a] = Character.isLowerCase(sign) ? "abcdefghijklmnopqrstuvwxyz".indexOf(sign)
                    : -1 - "ABCDEFGHIJ".indexOf(sign);
            }
            pad = "";
            return many();
        }

        int leave(int g) {
            if (!comes(g)) {
                return UNKNOWN;
            }
            worths[g] = null;
            return many();
        }

        int worth(int g, int a) {
            return !comes(g) || a < 0 || a >= n ? UNKNOWN : worths[g][a] + 10;
        }

        int play() {
            if (fault(1) != NONE) {
                return NO;
            }
            List<Integer> played = new ArrayList<>();
            for (char sign : pad.toCharArray()) {
                played.add(sign - '0');
            }
            order = played;
            pad = "";
            return 1;
        }

        static int price(int base, int step, int e) {
            int sum = 0;
            for (int j = 0; j < e; j++) {
                sum += base + j * step;
            }
            return sum;
        }

        int[] line(int g) {
            return line(worths[g], order);
        }

        int[] line(int[] worth, List<Integer> by) {
            int[] line = new int[n];
            for (int j = 0; j < n; j++) {
                line[j] = worth[by.get(j)];
            }
            return line;
        }

        int has(int[] line, int e, int b, int s) {
            return Arrays.stream(line, 0, e).sum() - price(b, s, e);
        }

        int behind(int[] line, int b, int s, int byLaw) {
            if (byLaw == 1) {
                return Arrays.stream(line).sum() - price(b, s, n) > 0 ? n : 0;
            }
            int best = 0;
            for (int e = 0; e <= n; e++) {
                if (has(line, e, b, s) > has(line, best, b, s)) {
                    best = e;
                }
            }
            return best;
        }

        int taken(int[][] all, List<Integer> by, int b, int s) {
            int sum = 0;
            for (int g = 0; g < 8; g++) {
                if (all[g] != null) {
                    sum += price(b, s, behind(line(all[g], by), b, s, law));
                }
            }
            return sum;
        }

        int leaves(int g, int what) {
            if (!comes(g)) {
                return UNKNOWN;
            }
            int e = behind(line(g), base, step, law);
            return what == 0 ? e : what == 1 ? price(base, step, e) : what == 2 ? has(line(g), e, base, step) : OUTSIDE;
        }

        int takings() {
            return taken(worths, order, base, step);
        }

        int stayed(int j) {
            if (j < 0 || j >= n) {
                return UNKNOWN;
            }
            int many = 0;
            for (int g = 0; g < 8; g++) {
                many += comes(g) && leaves(g, 0) >= j + 1 ? 1 : 0;
            }
            return many;
        }

        int fares(int what) {
            if (what < 0 || what > 2) {
                return OUTSIDE;
            }
            int[] best = {0, 0, -1};
            for (int b = 0; b <= 30; b++) {
                for (int s = 0; s <= 9; s++) {
                    int taken = taken(worths, order, b, s);
                    if (taken > best[2] || taken == best[2] && 10 * b + s < 10 * best[0] + best[1]) {
                        best = new int[] {b, s, taken};
                    }
                }
            }
            return best[what];
        }

        static List<List<Integer>> orders(List<Integer> of) {
            List<List<Integer>> all = new ArrayList<>();
            if (of.isEmpty()) {
                all.add(new ArrayList<>());
            }
            for (Integer first : of) {
                List<Integer> others = new ArrayList<>(of);
                others.remove(first);
                for (List<Integer> order : orders(others)) {
                    order.add(0, first);
                    all.add(order);
                }
            }
            return all;
        }

        static final List<List<List<Integer>>> ALL_ORDERS = new ArrayList<>();

        static List<List<Integer>> ordersOf(int n) {
            while (ALL_ORDERS.size() <= n) {
                List<Integer> numbers = new ArrayList<>();
                for (int i = 0; i < ALL_ORDERS.size(); i++) {
                    numbers.add(i);
                }
                ALL_ORDERS.add(orders(numbers));
            }
            return ALL_ORDERS.get(n);
        }

        static boolean keeps(List<Integer> by, List<int[]> pairs) {
            for (int[] pair : pairs) {
                if (by.indexOf(pair[0]) > by.indexOf(pair[1])) {
                    return false;
                }
            }
            return true;
        }

        int must(int a, int b) {
            if (a < 0 || a >= n || b < 0 || b >= n || a == b) {
                return UNKNOWN;
            }
            List<int[]> more = new ArrayList<>(must);
            more.add(new int[] {a, b});
            for (List<Integer> by : ordersOf(n)) {
                if (keeps(by, more)) {
                    must = more;
                    return 1;
                }
            }
            return STATE;
        }

        int order(int i) {
            if (i < -1 || i >= n) {
                return NONE;
            }
            List<Integer> best = null;
            for (List<Integer> by : ordersOf(n)) {
                if (keeps(by, must)
                        && (best == null || taken(worths, by, base, step) > taken(worths, best, base, step))) {
                    best = by;
                }
            }
            return i == -1 ? taken(worths, best, base, step) : best.get(i);
        }

        int claque(int v, int what) {
            if (v < 1 || v > 25 || what < 0 || what > 1) {
                return OUTSIDE;
            }
            int[] taken = new int[n];
            for (int a = 0; a < n; a++) {
                Plain wept = new Plain();
                copyTo(wept);
                for (int g = 0; g < 8; g++) {
                    if (wept.comes(g)) {
                        wept.worths[g][a] += v;
                    }
                }
                taken[a] = wept.takings();
            }
            int most = Arrays.stream(taken).max().getAsInt();
            for (int a = 0; a < n; a++) {
                if (taken[a] == most) {
                    return what == 0 ? a : most;
                }
            }
            throw new IllegalStateException();
        }

        int friends(int g, int h) {
            if (g < 0 || g > 7 || h < 0 || h > 7 || g == h) {
                return UNKNOWN;
            }
            friends.add(new int[] {g, h});
            return 1;
        }

        private String lastSeats = "";
        private int[] lastSeating;

        int seating(int i) {
            int m = many();
            int[] guests = new int[m];
            int[] behind = new int[m];
            for (int g = 0, k = 0; g < 8; g++) {
                if (comes(g)) {
                    guests[k] = g;
                    behind[k++] = leaves(g, 0);
                }
            }
            StringBuilder seats = new StringBuilder(Arrays.toString(guests)).append(Arrays.toString(behind));
            for (int[] pair : friends) {
                seats.append(Arrays.toString(pair));
            }
            if (!seats.toString().equals(lastSeats)) {
                lastSeats = seats.toString();
                lastSeating = fewest(guests, behind);
            }
            if (lastSeating == null) {
                return NONE;
            }
            return i < -1 || i >= m ? NONE : lastSeating[i + 1];
        }

        int[] fewest(int[] guests, int[] behind) {
            int m = guests.length;
            int least = Integer.MAX_VALUE;
            int[] best = null;
            for (List<Integer> row : ordersOf(m)) {
                int rise = friendsSit(row, guests) ? rising(row, behind) : Integer.MAX_VALUE;
                if (rise < least) {
                    least = rise;
                    best = new int[m + 1];
                    best[0] = rise;
                    for (int k = 0; k < m; k++) {
                        best[k + 1] = guests[row.get(k)];
                    }
                }
            }
            return best;
        }

        boolean friendsSit(List<Integer> row, int[] guests) {
            for (int[] pair : friends) {
                int one = Arrays.binarySearch(guests, pair[0]);
                int two = Arrays.binarySearch(guests, pair[1]);
                if (one >= 0 && two >= 0 && Math.abs(row.indexOf(one) - row.indexOf(two)) != 1) {
                    return false;
                }
            }
            return true;
        }

        static int rising(List<Integer> row, int[] behind) {
            int rise = 0;
            for (int k = 0; k < row.size(); k++) {
                int left = 0;
                int right = 0;
                for (int by = 0; by < row.size(); by++) {
                    if (behind[row.get(by)] > behind[row.get(k)]) {
                        if (by < k) {
                            left++;
                        } else {
                            right++;
                        }
                    }
                }
                rise += Math.min(left, right);
            }
            return rise;
        }

        int other(int j, int v) {
            if (j < 0 || j >= n) {
                return UNKNOWN;
            }
            if (v < 0 || v > 25) {
                return OUTSIDE;
            }
            int was = there[j];
            there[j] = v;
            return was;
        }

        int[] goes(int g, int here, int at) {
            int[] best = null;
            int most = 0;
            for (int e = 0; e <= n; e++) {
                for (int f = e; f <= n; f++) {
                    int has = has(line(g), e, here, step) + Arrays.stream(there, e, f).sum() - price(at, step, f - e);
                    if (best == null || has > most) {
                        best = new int[] {e, f};
                        most = has;
                    }
                }
            }
            return best;
        }

        int over(int g, int what) {
            return !comes(g) ? UNKNOWN : what != 0 && what != 1 ? OUTSIDE : goes(g, base, baseThere)[what];
        }

        int[] houses(int here, int at) {
            int[] taken = new int[2];
            for (int g = 0; g < 8; g++) {
                if (comes(g)) {
                    int[] goes = goes(g, here, at);
                    taken[0] += price(here, step, goes[0]);
                    taken[1] += price(at, step, goes[1] - goes[0]);
                }
            }
            return taken;
        }

        int both(int what) {
            return what != 0 && what != 1 ? OUTSIDE : houses(base, baseThere)[what];
        }

        int rests(int i) {
            int[][][] taken = new int[10][10][];
            for (int h = 0; h < 10; h++) {
                for (int t = 0; t < 10; t++) {
                    taken[h][t] = houses(h, t);
                }
            }
            List<Integer> found = new ArrayList<>();
            for (int h = 0; h < 10; h++) {
                for (int t = 0; t < 10; t++) {
                    boolean rest = true;
                    for (int b = 0; b < 10; b++) {
                        rest &= taken[b][t][0] <= taken[h][t][0] && taken[h][b][1] <= taken[h][t][1];
                    }
                    if (rest) {
                        found.add(10 * h + t);
                    }
                }
            }
            return i == -1 ? found.size() : i >= 0 && i < found.size() ? found.get(i) : NONE;
        }

        int seen(int g, int e, int b) {
            if (!comes(g)) {
                return UNKNOWN;
            }
            if (e < 0 || e > n || b < 0 || b > 30) {
                return OUTSIDE;
            }
            if (sights.size() == 6) {
                return FULL;
            }
            sights.add(new int[] {g, e, b});
            return sights.size();
        }

        int forget() {
            int was = sights.size();
            sights = new ArrayList<>();
            return was;
        }

        int fits(int g, int a, int what) {
            if (!comes(g) || a < 0 || a >= n) {
                return UNKNOWN;
            }
            if (what < 0 || what > 2) {
                return OUTSIDE;
            }
            List<Integer> found = new ArrayList<>();
            for (int w = -10; w <= 25; w++) {
                int[] worth = worths[g].clone();
                worth[a] = w;
                boolean fits = true;
                for (int[] sight : sights) {
                    fits &= sight[0] != g || behind(line(worth, order), sight[2], step, law) == sight[1];
                }
                if (fits) {
                    found.add(w + 10);
                }
            }
            return what == 0 ? found.size() : found.isEmpty() ? NONE : found.get(what == 1 ? 0 : found.size() - 1);
        }

        long odds(int x, int c, int part) {
            if (x < 0 || x > 9999 || c < 0 || c > 10 || part < 0 || part > 1) {
                return -1000000000000000002L;
            }
            // The odds of each sum, a guest more at a time.
            BigInteger[] ways = new BigInteger[10000];
            Arrays.fill(ways, BigInteger.ZERO);
            ways[0] = BigInteger.ONE;
            for (int g = 0; g < 8; g++) {
                if (comes(g)) {
                    BigInteger[] more = new BigInteger[10000];
                    int pays = leaves(g, 1);
                    for (int sum = 0; sum < 10000; sum++) {
                        int before = sum - pays;
                        more[sum] = ways[sum].multiply(BigInteger.valueOf(10 - c))
                            .add(before < 0 ? BigInteger.ZERO : ways[before].multiply(BigInteger.valueOf(c)));
                    }
                    ways = more;
                }
            }
            BigInteger upper = BigInteger.ZERO;
            for (int sum = x; sum < 10000; sum++) {
                upper = upper.add(ways[sum]);
            }
            BigInteger lower = BigInteger.TEN.pow(many());
            return (part == 0 ? upper : lower).divide(upper.gcd(lower)).longValueExact();
        }

        int year(int seed, int m, int what) {
            if (seed < 0 || seed > 9999 || m < 1 || m > 99 || what < 0 || what > 1) {
                return OUTSIDE;
            }
            int[] evenings = new int[m];
            long x = seed;
            for (int i = 0; i < m; i++) {
                x = (75 * x + 74) % 65537;
                String bits = String.format("%8s", Long.toBinaryString(x % 256)).replace(' ', '0');
                for (int g = 0; g < 8; g++) {
                    evenings[i] += comes(g) && bits.charAt(7 - g) == '1' ? leaves(g, 1) : 0;
                }
            }
            return what == 0 ? Arrays.stream(evenings).sum() : Arrays.stream(evenings).max().getAsInt();
        }

        int image(int i) {
            if (i != 0 && i != 1) {
                return OUTSIDE;
            }
            images[i] = new Plain();
            copyTo(images[i]);
            return 1;
        }

        int restore(int i) {
            if (i != 0 && i != 1) {
                return OUTSIDE;
            }
            if (images[i] == null) {
                return STATE;
            }
            images[i].copyTo(this);
            return 1;
        }

        int told(int what) {
            int bits = 0;
            for (int g = 0; g < 8; g++) {
                bits += comes(g) ? 1 << g : 0;
            }
            int[] few = {pad.length(), n, bits, base, step, law, baseThere, sights.size()};
            if (what >= 0 && what < few.length) {
                return few[what];
            }
            if (what >= 10 && what < 10 + n) {
                return order.get(what - 10);
            }
            return what >= 20 && what < 20 + n ? there[what - 20] : OUTSIDE;
        }
    }
}
