/** A theatre at which one pays at the door, going out, for the acts one has had. */
public final class ActsPaid {
    public static final int NONE = -6, UNKNOWN = -1, OUTSIDE = -2, STATE = -3, FULL = -4, NO = -5;
    public static final long LOST = -1000000000000000000L;

    private static final int ACTS_LIMIT = 6;
    private static final int GUESTS_LIMIT = 8;
    private static final int SIGNS_LIMIT = 48;
    private static final int SIGHTS_LIMIT = 6;
    private static final int BASE_LIMIT = 30;
    private static final int STEP_LIMIT = 9;
    private static final int LEAST_WORTH = -10;
    private static final int GREATEST_WORTH = 25;

    private final Pad pad;
    private final Stage stage;
    // What would be, is tried on this one, so that no call has to make one.
    private final Stage trial;
    private final Image firstImage;
    private final Image secondImage;
    private final Programme programme;
    private final Seats seats;
    private final Houses houses;
    private final Chances chances;

    public ActsPaid() {
        pad = new Pad();
        stage = new Stage();
        trial = new Stage();
        firstImage = new Image();
        secondImage = new Image();
        programme = new Programme();
        seats = new Seats();
        houses = new Houses();
        chances = new Chances();
    }

    // ---- 1 acts, guests

    public int acts(int n) {
        if (!within(n, 1, ACTS_LIMIT)) {
            return OUTSIDE;
        }
        int was = stage.acts;
        stage.openWith(n);
        return was;
    }

    public int set(int which, int v) {
        if (!within(which, 0, 3) || !within(v, 0, settingLimit(which))) {
            return OUTSIDE;
        }
        int was = stage.setting(which);
        stage.putSetting(which, v);
        return was;
    }

    public int say(int sign) {
        if (!within(sign, 33, 126)) {
            return OUTSIDE;
        }
        return pad.add(sign) ? pad.count : FULL;
    }

    public int wipe() {
        int was = pad.count;
        pad.count = 0;
        return was;
    }

    public int fault(int how) {
        if (!within(how, 0, 1)) {
            return OUTSIDE;
        }
        return how == 0 ? pad.guestFault(stage.acts) : pad.orderFault(stage.acts);
    }

    public int guest(int guest) {
        if (!within(guest, 0, GUESTS_LIMIT - 1)) {
            return UNKNOWN;
        }
        if (pad.guestFault(stage.acts) != NONE) {
            return NO;
        }
        for (int act = 0; act < stage.acts; act++) {
            stage.putWorth(guest, act, Pad.worthTold(pad.sign(act)));
        }
        stage.present |= 1 << guest;
        pad.count = 0;
        return Integer.bitCount(stage.present);
    }

    public int leave(int guest) {
        if (!stage.comes(guest)) {
            return UNKNOWN;
        }
        stage.present &= ~(1 << guest);
        return Integer.bitCount(stage.present);
    }

    public int worth(int guest, int act) {
        if (!stage.comes(guest) || !stage.hasAct(act)) {
            return UNKNOWN;
        }
        return stage.worthTo(guest, act) - LEAST_WORTH;
    }

    public int play() {
        if (pad.orderFault(stage.acts) != NONE) {
            return NO;
        }
        for (int j = 0; j < stage.acts; j++) {
            Rows.put(stage.order, j, Pad.actTold(pad.sign(j)));
        }
        pad.count = 0;
        return 1;
    }

    // ---- 2 evenings

    public int leaves(int guest, int what) {
        if (!stage.comes(guest)) {
            return UNKNOWN;
        }
        if (!within(what, 0, 2)) {
            return OUTSIDE;
        }
        int behind = stage.behind(guest);
        int pays = stage.price(stage.base, behind);
        switch (what) {
            case 0: return behind;
            case 1: return pays;
            default: return stage.worthOfFirst(guest, behind) - pays;
        }
    }

    public int takings() {
        return stage.allPay();
    }

    public int stayed(int j) {
        if (!stage.hasAct(j)) {
            return UNKNOWN;
        }
        int many = 0;
        for (int guest = 0; guest < GUESTS_LIMIT; guest++) {
            if (stage.comes(guest) && stage.behind(guest) > j) {
                many++;
            }
        }
        return many;
    }

    public int fares(int what) {
        if (!within(what, 0, 2)) {
            return OUTSIDE;
        }
        return Programme.faresForMost(tried(), what);
    }

    public int must(int act, int other) {
        if (!stage.hasAct(act) || !stage.hasAct(other) || act == other) {
            return UNKNOWN;
        }
        if (stage.isAfter(act, other)) {
            return STATE;
        }
        stage.putAfter(other, act);
        return 1;
    }

    public int order(int i) {
        if (!within(i, -1, stage.acts - 1)) {
            return NONE;
        }
        return programme.orderForMost(tried(), i);
    }

    public int claque(int v, int what) {
        if (!within(v, 1, 25) || !within(what, 0, 1)) {
            return OUTSIDE;
        }
        return Programme.actForClaque(tried(), v, what);
    }

    // ---- 3 seats, houses

    public int friends(int guest, int other) {
        boolean known = within(guest, 0, GUESTS_LIMIT - 1) && within(other, 0, GUESTS_LIMIT - 1);
        if (!known || guest == other) {
            return UNKNOWN;
        }
        stage.befriend(guest, other);
        stage.befriend(other, guest);
        return 1;
    }

    public int seating(int i) {
        return seats.seated(stage, i);
    }

    public int other(int j, int v) {
        if (!stage.hasAct(j)) {
            return UNKNOWN;
        }
        if (!within(v, 0, 25)) {
            return OUTSIDE;
        }
        int was = Rows.at(stage.worthsThere, j);
        Rows.put(stage.worthsThere, j, v);
        return was;
    }

    public int over(int guest, int what) {
        if (!stage.comes(guest)) {
            return UNKNOWN;
        }
        if (!within(what, 0, 1)) {
            return OUTSIDE;
        }
        houses.send(stage, guest);
        return what == 0 ? houses.goesOver : houses.goesHome;
    }

    public int both(int what) {
        if (!within(what, 0, 1)) {
            return OUTSIDE;
        }
        houses.sendAll(stage);
        return what == 0 ? houses.takenHere : houses.takenThere;
    }

    public int rests(int i) {
        return houses.restingBases(tried(), i);
    }

    // ---- 4 what was seen, odds, years

    public int seen(int guest, int e, int b) {
        if (!stage.comes(guest)) {
            return UNKNOWN;
        }
        if (!within(e, 0, stage.acts) || !within(b, 0, BASE_LIMIT)) {
            return OUTSIDE;
        }
        return stage.sights.add(guest, e, b) ? stage.sights.count : FULL;
    }

    public int forget() {
        int was = stage.sights.count;
        stage.sights.count = 0;
        return was;
    }

    public int fits(int guest, int act, int what) {
        if (!stage.comes(guest) || !stage.hasAct(act)) {
            return UNKNOWN;
        }
        if (!within(what, 0, 2)) {
            return OUTSIDE;
        }
        return Sights.worthsThatFit(tried(), guest, act, what);
    }

    public long odds(int x, int c, int part) {
        if (!within(x, 0, 9999) || !within(c, 0, 10) || !within(part, 0, 1)) {
            return LOST + OUTSIDE;
        }
        return chances.comesIn(stage, x, c, part);
    }

    public int year(int seed, int m, int what) {
        if (!within(seed, 0, 9999) || !within(m, 1, 99) || !within(what, 0, 1)) {
            return OUTSIDE;
        }
        return chances.evenings(stage, seed, m, what);
    }

    public int image(int n) {
        if (!within(n, 0, 1)) {
            return OUTSIDE;
        }
        Image image = imageOf(n);
        image.kept.copyFrom(stage);
        image.taken = true;
        return 1;
    }

    public int restore(int n) {
        if (!within(n, 0, 1)) {
            return OUTSIDE;
        }
        Image image = imageOf(n);
        if (!image.taken) {
            return STATE;
        }
        stage.copyFrom(image.kept);
        return 1;
    }

    public int told(int what) {
        if (within(what, 10, 9 + stage.acts)) {
            return Rows.at(stage.order, what - 10);
        }
        if (within(what, 20, 19 + stage.acts)) {
            return Rows.at(stage.worthsThere, what - 20);
        }
        switch (what) {
            case 0: return pad.count;
            case 1: return stage.acts;
            case 2: return stage.present;
            case 3: return stage.base;
            case 4: return stage.step;
            case 5: return stage.law;
            case 6: return stage.baseThere;
            case 7: return stage.sights.count;
            default: return OUTSIDE;
        }
    }

    private Image imageOf(int n) {
        return n == 0 ? firstImage : secondImage;
    }

    private Stage tried() {
        trial.copyFrom(stage);
        return trial;
    }

    private static int settingLimit(int which) {
        switch (which) {
            case 1: return STEP_LIMIT;
            case 2: return 1;
            default: return BASE_LIMIT;
        }
    }

    private static boolean within(int v, int least, int greatest) {
        return v >= least && v <= greatest;
    }

    /** Rows of numbers, looked at before they are used: no place outside one is ever touched. */
    private static final class Rows {
        static int at(int[] row, int i) {
            return row != null && i >= 0 && i < row.length ? row[i] : 0;
        }

        static void put(int[] row, int i, int v) {
            if (row != null && i >= 0 && i < row.length) {
                row[i] = v;
            }
        }

        static void swap(int[] row, int i, int j) {
            int first = at(row, i);
            put(row, i, at(row, j));
            put(row, j, first);
        }

        static void copy(int[] from, int[] to) {
            if (from == null || to == null) {
                return;
            }
            for (int i = 0; i < from.length && i < to.length; i++) {
                to[i] = from[i];
            }
        }
    }

    /** The signs said so far, and what is wrong with them. */
    private static final class Pad {
        final int[] signs;
        int count;

        Pad() {
            signs = new int[SIGNS_LIMIT];
        }

        boolean add(int sign) {
            if (count >= SIGNS_LIMIT) {
                return false;
            }
            Rows.put(signs, count, sign);
            count++;
            return true;
        }

        int sign(int i) {
            return Rows.at(signs, i);
        }

        int guestFault(int acts) {
            for (int i = 0; i < count; i++) {
                if (i >= acts || !tellsWorth(sign(i))) {
                    return i;
                }
            }
            return count < acts ? count : NONE;
        }

        int orderFault(int acts) {
            int named = 0;
            for (int i = 0; i < count; i++) {
                int act = actTold(sign(i));
                if (!within(act, 0, acts - 1) || (named >> act & 1) != 0) {
                    return i;
                }
                named |= 1 << act;
            }
            return count < acts ? count : NONE;
        }

        static boolean tellsWorth(int sign) {
            return within(sign, 'a', 'z') || within(sign, 'A', 'J');
        }

        static int worthTold(int sign) {
            return sign >= 'a' ? sign - 'a' : 'A' - 1 - sign;
        }

        static int actTold(int sign) {
            return sign - '0';
        }
    }

    /** All that an image keeps: acts, guests, fares and what has been told of them. */
    private static final class Stage {
        int acts;
        int base;
        int step;
        int law;
        int baseThere;
        int present;
        final int[] order;
        final int[] worths;
        final int[] worthsThere;
        // Of each act those that follow it, through others too: so one look finds a circle.
        final int[] after;
        final int[] friendsOf;
        final Sights sights;

        Stage() {
            acts = 4;
            base = 5;
            step = 1;
            baseThere = 5;
            order = new int[] {0, 1, 2, 3, 4, 5};
            worths = new int[GUESTS_LIMIT * ACTS_LIMIT];
            worthsThere = new int[ACTS_LIMIT];
            after = new int[ACTS_LIMIT];
            friendsOf = new int[GUESTS_LIMIT];
            sights = new Sights();
        }

        void copyFrom(Stage from) {
            acts = from.acts;
            base = from.base;
            step = from.step;
            law = from.law;
            baseThere = from.baseThere;
            present = from.present;
            Rows.copy(from.order, order);
            Rows.copy(from.worths, worths);
            Rows.copy(from.worthsThere, worthsThere);
            Rows.copy(from.after, after);
            Rows.copy(from.friendsOf, friendsOf);
            sights.copyFrom(from.sights);
        }

        void openWith(int n) {
            acts = n;
            present = 0;
            sights.count = 0;
            orderByNumbers();
            for (int act = 0; act < ACTS_LIMIT; act++) {
                Rows.put(worthsThere, act, 0);
                Rows.put(after, act, 0);
            }
            for (int guest = 0; guest < GUESTS_LIMIT; guest++) {
                Rows.put(friendsOf, guest, 0);
            }
        }

        void orderByNumbers() {
            for (int act = 0; act < ACTS_LIMIT; act++) {
                Rows.put(order, act, act);
            }
        }

        int setting(int which) {
            switch (which) {
                case 0: return base;
                case 1: return step;
                case 2: return law;
                default: return baseThere;
            }
        }

        void putSetting(int which, int v) {
            switch (which) {
                case 0: base = v; break;
                case 1: step = v; break;
                case 2: law = v; break;
                default: baseThere = v; break;
            }
        }

        boolean comes(int guest) {
            return within(guest, 0, GUESTS_LIMIT - 1) && (present >> guest & 1) != 0;
        }

        boolean hasAct(int act) {
            return within(act, 0, acts - 1);
        }

        int worthTo(int guest, int act) {
            return Rows.at(worths, guest * ACTS_LIMIT + act);
        }

        void putWorth(int guest, int act, int v) {
            Rows.put(worths, guest * ACTS_LIMIT + act, v);
        }

        int worthPlayed(int guest, int j) {
            return Rows.at(worths, guest * ACTS_LIMIT + Rows.at(order, j));
        }

        int worthOfFirst(int guest, int many) {
            int sum = 0;
            for (int j = 0; j < many; j++) {
                sum += worthPlayed(guest, j);
            }
            return sum;
        }

        int price(int fromBase, int had) {
            return had * fromBase + had * (had - 1) / 2 * step;
        }

        int behind(int guest) {
            int has = 0;
            int most = 0;
            int behind = 0;
            for (int j = 0; j < acts; j++) {
                has += worthPlayed(guest, j) - base - j * step;
                // Who has paid coming in sits through all or has not come in.
                boolean mayLeave = law == 0 || j == acts - 1;
                if (mayLeave && has > most) {
                    most = has;
                    behind = j + 1;
                }
            }
            return behind;
        }

        int pays(int guest) {
            return comes(guest) ? price(base, behind(guest)) : 0;
        }

        int allPay() {
            int sum = 0;
            for (int guest = 0; guest < GUESTS_LIMIT; guest++) {
                sum += pays(guest);
            }
            return sum;
        }

        boolean isAfter(int act, int first) {
            return (Rows.at(after, first) >> act & 1) != 0;
        }

        void putAfter(int act, int first) {
            int follow = Rows.at(after, act) | 1 << act;
            for (int ahead = 0; ahead < acts; ahead++) {
                if (ahead == first || isAfter(first, ahead)) {
                    Rows.put(after, ahead, Rows.at(after, ahead) | follow);
                }
            }
        }

        boolean keepsMust() {
            int played = 0;
            for (int j = 0; j < acts; j++) {
                int act = Rows.at(order, j);
                if ((Rows.at(after, act) & played) != 0) {
                    return false;
                }
                played |= 1 << act;
            }
            return true;
        }

        void befriend(int guest, int friend) {
            Rows.put(friendsOf, guest, Rows.at(friendsOf, guest) | 1 << friend);
        }
    }

    /** Guests seen leaving, and what an act can have been worth to them. */
    private static final class Sights {
        int count;
        final int[] guests;
        final int[] behinds;
        final int[] bases;

        Sights() {
            guests = new int[SIGHTS_LIMIT];
            behinds = new int[SIGHTS_LIMIT];
            bases = new int[SIGHTS_LIMIT];
        }

        void copyFrom(Sights from) {
            count = from.count;
            Rows.copy(from.guests, guests);
            Rows.copy(from.behinds, behinds);
            Rows.copy(from.bases, bases);
        }

        boolean add(int guest, int behind, int base) {
            if (count >= SIGHTS_LIMIT) {
                return false;
            }
            Rows.put(guests, count, guest);
            Rows.put(behinds, count, behind);
            Rows.put(bases, count, base);
            count++;
            return true;
        }

        boolean allow(Stage trial, int guest) {
            for (int i = 0; i < count; i++) {
                if (Rows.at(guests, i) == guest) {
                    trial.base = Rows.at(bases, i);
                    if (trial.behind(guest) != Rows.at(behinds, i)) {
                        return false;
                    }
                }
            }
            return true;
        }

        static int worthsThatFit(Stage trial, int guest, int act, int what) {
            int many = 0;
            int least = NONE;
            int greatest = NONE;
            for (int worth = LEAST_WORTH; worth <= GREATEST_WORTH; worth++) {
                trial.putWorth(guest, act, worth);
                if (trial.sights.allow(trial, guest)) {
                    greatest = worth - LEAST_WORTH;
                    least = many == 0 ? greatest : least;
                    many++;
                }
            }
            switch (what) {
                case 0: return many;
                case 1: return least;
                default: return greatest;
            }
        }
    }

    /** A stage as it was when it was kept. */
    private static final class Image {
        final Stage kept;
        boolean taken;

        Image() {
            kept = new Stage();
        }
    }

    /** What could be asked, played or wept at for the most takings. */
    private static final class Programme {
        static final int FARES = (BASE_LIMIT + 1) * (STEP_LIMIT + 1);
        static final int ORDERS_LIMIT = 720;

        final int[] best;

        Programme() {
            best = new int[ACTS_LIMIT];
        }

        static int faresForMost(Stage trial, int what) {
            int most = -1;
            int bestFares = 0;
            for (int fares = 0; fares < FARES; fares++) {
                trial.base = fares / 10;
                trial.step = fares % 10;
                int taken = trial.allPay();
                if (taken > most) {
                    most = taken;
                    bestFares = fares;
                }
            }
            switch (what) {
                case 0: return bestFares / 10;
                case 1: return bestFares % 10;
                default: return most;
            }
        }

        int orderForMost(Stage trial, int i) {
            int most = -1;
            trial.orderByNumbers();
            for (int tried = 0; tried < ORDERS_LIMIT; tried++) {
                int taken = trial.keepsMust() ? trial.allPay() : -1;
                if (taken > most) {
                    most = taken;
                    Rows.copy(trial.order, best);
                }
                if (!nextByDigits(trial.order, trial.acts)) {
                    break;
                }
            }
            return i == -1 ? most : Rows.at(best, i);
        }

        static boolean nextByDigits(int[] order, int n) {
            int rise = n - 2;
            while (rise >= 0 && Rows.at(order, rise) > Rows.at(order, rise + 1)) {
                rise--;
            }
            if (rise < 0) {
                return false;
            }
            int above = n - 1;
            while (above > rise && Rows.at(order, above) < Rows.at(order, rise)) {
                above--;
            }
            Rows.swap(order, rise, above);
            for (int low = rise + 1, high = n - 1; low < high; low++, high--) {
                Rows.swap(order, low, high);
            }
            return true;
        }

        static int actForClaque(Stage trial, int v, int what) {
            int most = -1;
            int bestAct = 0;
            for (int act = 0; act < trial.acts; act++) {
                weepAt(trial, act, v);
                int taken = trial.allPay();
                weepAt(trial, act, -v);
                if (taken > most) {
                    most = taken;
                    bestAct = act;
                }
            }
            return what == 0 ? bestAct : most;
        }

        static void weepAt(Stage trial, int act, int v) {
            for (int guest = 0; guest < GUESTS_LIMIT; guest++) {
                trial.putWorth(guest, act, trial.worthTo(guest, act) + v);
            }
        }
    }

    /**
     * The row of seats, filled from the left. Who rises for a guest hangs only on who sits on the
     * left, and whether friends sit side by side on the last of these; so these two are the states.
     */
    private static final class Seats {
        static final int SETS = 1 << GUESTS_LIMIT;
        // More than can ever rise: marks what no order can bring.
        static final int NEVER = 1000;

        final int[] fewest;
        final int[] later;

        Seats() {
            fewest = new int[SETS * GUESTS_LIMIT];
            later = new int[GUESTS_LIMIT];
        }

        int seated(Stage stage, int i) {
            readLater(stage);
            for (int left = stage.present; left >= 0; left--) {
                if ((left & ~stage.present) == 0) {
                    fillBehind(stage, left);
                }
            }
            int rise = fewestBehind(0, 0);
            if (rise >= NEVER) {
                return NONE;
            }
            return i == -1 ? rise : guestOnSeat(stage, i);
        }

        void readLater(Stage stage) {
            for (int guest = 0; guest < GUESTS_LIMIT; guest++) {
                int stay = 0;
                for (int other = 0; other < GUESTS_LIMIT; other++) {
                    if (stage.comes(other) && stage.behind(other) > stage.behind(guest)) {
                        stay |= 1 << other;
                    }
                }
                Rows.put(later, guest, stay);
            }
        }

        void fillBehind(Stage stage, int left) {
            for (int last = 0; last < GUESTS_LIMIT; last++) {
                int least = left == stage.present ? 0 : NEVER;
                for (int next = 0; next < GUESTS_LIMIT; next++) {
                    if (maySit(stage, left, last, next)) {
                        least = Math.min(least, fewestWith(left, next));
                    }
                }
                Rows.put(fewest, left * GUESTS_LIMIT + last, least);
            }
        }

        int fewestBehind(int left, int last) {
            return Rows.at(fewest, left * GUESTS_LIMIT + last);
        }

        int fewestWith(int left, int next) {
            int stay = Rows.at(later, next);
            int rise = Math.min(Integer.bitCount(stay & left), Integer.bitCount(stay & ~left));
            return rise + fewestBehind(left | 1 << next, next);
        }

        static boolean maySit(Stage stage, int left, int last, int next) {
            int apart = Rows.at(stage.friendsOf, next) & left & ~(1 << last);
            return stage.comes(next) && (left >> next & 1) == 0 && apart == 0;
        }

        int guestOnSeat(Stage stage, int i) {
            int left = 0;
            int last = 0;
            for (int seat = 0; seat < Integer.bitCount(stage.present); seat++) {
                last = firstOfFewest(stage, left, last);
                left |= 1 << last;
                if (seat == i) {
                    return last;
                }
            }
            return NONE;
        }

        int firstOfFewest(Stage stage, int left, int last) {
            int least = fewestBehind(left, last);
            for (int next = 0; next < GUESTS_LIMIT; next++) {
                if (maySit(stage, left, last, next) && fewestWith(left, next) == least) {
                    return next;
                }
            }
            return last;
        }
    }

    /** Both houses, and guests who go over from here to there. */
    private static final class Houses {
        static final int BASES = 10;

        int goesOver;
        int goesHome;
        int takenHere;
        int takenThere;
        final int[] here;
        final int[] there;

        Houses() {
            here = new int[BASES * BASES];
            there = new int[BASES * BASES];
        }

        /** The sums run on behind the last act, where no place asks for them any more. */
        void send(Stage stage, int guest) {
            int most = 0;
            int hasHere = 0;
            goesOver = 0;
            goesHome = 0;
            for (int e = 0; e <= stage.acts; e++) {
                int has = hasHere;
                for (int f = e; f <= stage.acts; f++) {
                    if (has > most) {
                        most = has;
                        goesOver = e;
                        goesHome = f;
                    }
                    has += Rows.at(stage.worthsThere, f) - stage.baseThere - (f - e) * stage.step;
                }
                hasHere += stage.worthPlayed(guest, e) - stage.base - e * stage.step;
            }
        }

        void sendAll(Stage stage) {
            takenHere = 0;
            takenThere = 0;
            for (int guest = 0; guest < GUESTS_LIMIT; guest++) {
                if (stage.comes(guest)) {
                    send(stage, guest);
                    takenHere += stage.price(stage.base, goesOver);
                    takenThere += stage.price(stage.baseThere, goesHome - goesOver);
                }
            }
        }

        int restingBases(Stage trial, int i) {
            for (int bases = 0; bases < BASES * BASES; bases++) {
                trial.base = bases / BASES;
                trial.baseThere = bases % BASES;
                sendAll(trial);
                Rows.put(here, bases, takenHere);
                Rows.put(there, bases, takenThere);
            }
            int many = 0;
            for (int bases = 0; bases < BASES * BASES; bases++) {
                if (bothRest(bases)) {
                    if (many == i) {
                        return bases;
                    }
                    many++;
                }
            }
            return i == -1 ? many : NONE;
        }

        boolean bothRest(int bases) {
            int hereBase = bases / BASES;
            int thereBase = bases % BASES;
            for (int base = 0; base < BASES; base++) {
                boolean moreHere = Rows.at(here, base * BASES + thereBase) > Rows.at(here, bases);
                boolean moreThere = Rows.at(there, hereBase * BASES + base) > Rows.at(there, bases);
                if (moreHere || moreThere) {
                    return false;
                }
            }
            return true;
        }
    }

    /** Evenings to which only some of the guests come. */
    private static final class Chances {
        // Far more rounds than the longest division of two such numbers by turns can take.
        static final int ROUNDS_LIMIT = 1000;

        // Nothing for who does not come: so any set of guests may be asked what it pays.
        final int[] payments;

        Chances() {
            payments = new int[GUESTS_LIMIT];
        }

        void readPayments(Stage stage) {
            for (int guest = 0; guest < GUESTS_LIMIT; guest++) {
                Rows.put(payments, guest, stage.pays(guest));
            }
        }

        int paidBy(int guests) {
            int sum = 0;
            for (int guest = 0; guest < GUESTS_LIMIT; guest++) {
                if ((guests >> guest & 1) != 0) {
                    sum += Rows.at(payments, guest);
                }
            }
            return sum;
        }

        long comesIn(Stage stage, int x, int c, int part) {
            readPayments(stage);
            long upper = 0;
            for (int guests = 0; guests <= stage.present; guests++) {
                if ((guests & ~stage.present) == 0 && paidBy(guests) >= x) {
                    upper += waysOf(stage, guests, c);
                }
            }
            long lower = 1;
            for (int guest = 0; guest < Integer.bitCount(stage.present); guest++) {
                lower *= 10;
            }
            long common = common(upper, lower);
            long told = part == 0 ? upper : lower;
            return common > 0 ? told / common : told;
        }

        static long waysOf(Stage stage, int guests, int c) {
            long ways = 1;
            for (int guest = 0; guest < GUESTS_LIMIT; guest++) {
                if (stage.comes(guest)) {
                    ways *= (guests >> guest & 1) != 0 ? c : 10 - c;
                }
            }
            return ways;
        }

        static long common(long first, long second) {
            long greater = first;
            long less = second;
            for (int round = 0; round < ROUNDS_LIMIT && less != 0; round++) {
                long left = greater % less;
                greater = less;
                less = left;
            }
            return greater;
        }

        int evenings(Stage stage, int seed, int m, int what) {
            readPayments(stage);
            int x = seed;
            int all = 0;
            int most = 0;
            for (int evening = 0; evening < m; evening++) {
                x = (75 * x + 74) % 65537;
                int taken = paidBy(x % 256);
                all += taken;
                most = Math.max(most, taken);
            }
            return what == 0 ? all : most;
        }
    }
}
