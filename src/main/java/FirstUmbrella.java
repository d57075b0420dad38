import java.util.Arrays;

/**
 * A row of streets in which umbrellas make the rain. The words in capitals are
 * those of the document (../shared/DOC.md).
 */
public final class FirstUmbrella {
    public static final int UNKNOWN = -1, BAD = -2, LATE = -3, FULL = -4, NONE = -9;

    private static final int STREETS = 6, ALL_STREETS = (1 << STREETS) - 1;
    private static final int MOST_WALKERS = 5, MOST_NEEDS = 5, MOST_BYTES = 48;
    private static final int STUFFS = 4, SILK = 1, GINGHAM = 2, BISHOP = 3;
    private static final int SORTS = 3, HAY = 0, BEANS = 1;
    private static final int OPEN = 0, KEPT = 1, BROKEN = 2;
    private static final int GINGHAM_LASTS = 7, SILK_LASTS = 1;
    private static final int MOST_ACTS = 14, MOST_FELT = 6, SLOTS = 2, MOST_DOINGS = 4;
    private static final int MOST_AHEAD = 20, ASKED_AHEAD = 9, LAST_FELT_HOUR = 9, LAST_SHUT = 6;
    private static final int TENTHS = 10, MOST_WEEKS = 30;
    private static final long SEED_TIMES = 6364136223846793005L, SEED_AND = 1442695040888963407L;

    private final Script script;
    private final Plan plan;
    private final Scene now;
    /** Every call that only looks ahead does so in this one scene, so that no call makes objects. */
    private final Scene trial;
    private final Past past;
    private final Slots slots;
    private final Felt felt;
    private long seedNow;

    public FirstUmbrella() {
        script = new Script();
        plan = new Plan();
        now = new Scene(plan);
        trial = new Scene(plan);
        past = new Past(plan);
        slots = new Slots(plan);
        felt = new Felt();
    }

    // ---- the town

    public int write(int letter) {
        if (letter < 0 || letter > 255) {
            return BAD;
        }
        return script.append(letter) ? script.length() : FULL;
    }

    public int wipe() {
        int was = script.length();
        script.clear();
        return was;
    }

    public int fault() {
        return script.firstFault();
    }

    public int town() {
        if (script.firstFault() != NONE) {
            return LATE;
        }
        plan.readFrom(script);
        now.begin();
        past.clear();
        slots.clear();
        return 10 * plan.walkerCount() + plan.needCount();
    }

    public int about(int what) {
        switch (what) {
            case 0: return plan.walkerCount();
            case 1: return plan.needCount();
            case 2: return now.time();
            case 3: return now.openBits();
            case 4: return now.rainBits();
            case 5: return now.hailBits();
            case 6: return now.needBits(KEPT);
            case 7: return now.needBits(BROKEN);
            case 8: return past.size();
            case 9: return felt.size();
            case 10: return script.length();
            default: return BAD;
        }
    }

    public int walker(int walker, int what) {
        if (!plan.hasWalker(walker)) {
            return UNKNOWN;
        }
        switch (what) {
            case 0: return now.placeOf(walker);
            case 1: return plan.stuffOf(walker);
            case 2: return now.isOpen(walker) ? 1 : 0;
            default: return BAD;
        }
    }

    public int need(int need, int what) {
        if (!plan.hasNeed(need)) {
            return UNKNOWN;
        }
        switch (what) {
            case 0: return plan.streetOfNeed(need);
            case 1: return plan.sortOfNeed(need);
            case 2: return plan.figureOfNeed(need);
            case 3: return now.fateOf(need);
            default: return BAD;
        }
    }

    public int street(int street, int what) {
        if (!isStreet(street)) {
            return UNKNOWN;
        }
        switch (what) {
            case 0: return now.wetnessOf(street);
            case 1: return now.lastsIn(street);
            case 2: return now.openIn(street);
            default: return BAD;
        }
    }

    // ---- acts

    public int open(int walker) {
        if (!plan.hasWalker(walker)) {
            return UNKNOWN;
        }
        if (now.isOpen(walker)) {
            return LATE;
        }
        past.add(now);
        now.raise(walker);
        return now.openIn(now.placeOf(walker));
    }

    public int shut(int walker) {
        if (!plan.hasWalker(walker)) {
            return UNKNOWN;
        }
        if (!now.isOpen(walker)) {
            return LATE;
        }
        past.add(now);
        now.lower(walker);
        return now.openIn(now.placeOf(walker));
    }

    public int walk(int walker, boolean up) {
        if (!plan.hasWalker(walker)) {
            return UNKNOWN;
        }
        if (!now.canMove(walker, up)) {
            return LATE;
        }
        past.add(now);
        now.move(walker, up);
        return now.placeOf(walker);
    }

    public int hour() {
        past.add(now);
        return now.passHour();
    }

    public int undo() {
        if (past.size() == 0) {
            return LATE;
        }
        past.takeLast(now);
        return past.size();
    }

    // ---- hours to come, asking

    public int wet(int street, int n) {
        if (!isStreet(street)) {
            return UNKNOWN;
        }
        if (n < 0 || n > MOST_AHEAD) {
            return BAD;
        }
        trial.copy(now);
        trial.passHours(n);
        return trial.wetnessOf(street);
    }

    public int needs(int n, int what) {
        if (n < 0 || n > MOST_AHEAD || !isChoice(what)) {
            return BAD;
        }
        trial.copy(now);
        trial.passHours(n);
        return trial.needBits(what == 0 ? KEPT : BROKEN);
    }

    public int dry(int street) {
        if (!isStreet(street)) {
            return UNKNOWN;
        }
        trial.copy(now);
        for (int n = 0; n <= MOST_AHEAD; n++) {
            if (!has(trial.rainBits(), street)) {
                return n;
            }
            trial.passHour();
        }
        return NONE;
    }

    public int asked(int what) {
        if (!isChoice(what)) {
            return BAD;
        }
        int best = 0;
        int most = keptIfOpened(best);
        for (int set = 1; set < 1 << MOST_WALKERS; set++) {
            if (isWithin(set, now.shutBits())) {
                int kept = keptIfOpened(set);
                boolean fewer = Integer.bitCount(set) < Integer.bitCount(best);
                if (kept > most || kept == most && fewer) {
                    best = set;
                    most = kept;
                }
            }
        }
        return what == 0 ? best : most;
    }

    public int sent(int walker, int what) {
        if (!plan.hasWalker(walker)) {
            return UNKNOWN;
        }
        if (!isChoice(what)) {
            return BAD;
        }
        if (now.isOpen(walker)) {
            return LATE;
        }
        int best = 0;
        int most = keptIfSent(walker, best);
        for (int street = 1; street < STREETS; street++) {
            int kept = keptIfSent(walker, street);
            if (kept > most) {
                best = street;
                most = kept;
            }
        }
        return what == 0 ? best : most;
    }

    public int judge(int n, long row) {
        if (n < 1 || n > MOST_DOINGS || row < 0 || withoutLast(row, n) != 0) {
            return BAD;
        }
        trial.copy(now);
        for (int i = 0; i < n; i++) {
            int doing = (int) (withoutLast(row, n - 1 - i) % 1000);
            if (!comesTrue(doing / 100, doing / 10 % 10, doing % 10)) {
                return i;
            }
        }
        return NONE;
    }

    public int share(int walker, boolean upper) {
        if (!plan.hasWalker(walker)) {
            return UNKNOWN;
        }
        int count = plan.walkerCount();
        int sum = 0;
        for (int come = 0; come < 1 << count; come++) {
            if (!has(come, walker)) {
                int ahead = Integer.bitCount(come);
                int more = keptIfCome(come | 1 << walker) - keptIfCome(come);
                sum += more * ordersOf(ahead) * ordersOf(count - 1 - ahead);
            }
        }
        return partOf(sum, ordersOf(count), upper);
    }

    // ---- felt

    public int feel(int street, int t, int rain) {
        if (!isStreet(street)) {
            return UNKNOWN;
        }
        if (t < 0 || t > LAST_FELT_HOUR || !isChoice(rain)) {
            return BAD;
        }
        return felt.add(street, t, rain == 1) ? felt.size() : FULL;
    }

    public int unfeel() {
        int was = felt.size();
        felt.clear();
        return was;
    }

    public int may(int what) {
        if (!isChoice(what)) {
            return BAD;
        }
        int many = 0;
        int first = NONE;
        for (int stuff = 0; stuff < STUFFS; stuff++) {
            for (int home = 0; home < STREETS; home++) {
                for (int shut = 1; shut <= LAST_SHUT; shut++) {
                    if (felt.isSo(stuff, home, shut)) {
                        first = many == 0 ? 100 * stuff + 10 * home + shut : first;
                        many++;
                    }
                }
            }
        }
        return what == 0 ? many : first;
    }

    // ---- rests, chances

    public int rests(int one, int other, int what) {
        if (!plan.hasWalker(one) || !plan.hasWalker(other)) {
            return UNKNOWN;
        }
        if (one == other || !isChoice(what)) {
            return BAD;
        }
        if (now.isOpen(one) || now.isOpen(other)) {
            return LATE;
        }
        int many = 0;
        int first = NONE;
        for (int pair = 0; pair < 4; pair++) {
            boolean opens = pair >= 2;
            boolean otherOpens = pair % 2 == 1;
            if (isContent(one, opens, other, otherOpens) && isContent(other, otherOpens, one, opens)) {
                first = many == 0 ? 10 * (pair / 2) + pair % 2 : first;
                many++;
            }
        }
        return what == 0 ? many : first;
    }

    public int sudden(int street, int what, int x, boolean upper) {
        if (!isStreet(street)) {
            return UNKNOWN;
        }
        if (!isChoice(what) || x < 0 || x > TENTHS) {
            return BAD;
        }
        int mayOpen = now.shutBits();
        int count = Integer.bitCount(mayOpen);
        int sum = 0;
        for (int set = 0; set < 1 << MOST_WALKERS; set++) {
            if (isWithin(set, mayOpen)) {
                trial.copy(now);
                trial.raiseAll(set);
                if (has(what == 0 ? trial.rainBits() : trial.hailBits(), street)) {
                    int opening = Integer.bitCount(set);
                    sum += power(x, opening) * power(TENTHS - x, count - opening);
                }
            }
        }
        return partOf(sum, power(TENTHS, count), upper);
    }

    public long seed(long v) {
        long was = seedNow;
        seedNow = v;
        return was;
    }

    public int weeks(int m) {
        if (m < 1 || m > MOST_WEEKS) {
            return BAD;
        }
        trial.copy(now);
        int sum = 0;
        for (int i = 0; i < m; i++) {
            seedNow = seedNow * SEED_TIMES + SEED_AND;
            doByChance((int) ((seedNow >>> 33) % 24));
            sum += Integer.bitCount(trial.rainBits());
        }
        return sum;
    }

    // ---- slots

    public int keep(int slot) {
        if (!isSlot(slot)) {
            return UNKNOWN;
        }
        slots.store(slot, now);
        return now.time();
    }

    public int again(int slot) {
        if (!isSlot(slot)) {
            return UNKNOWN;
        }
        if (!slots.fetch(slot, now)) {
            return LATE;
        }
        past.clear();
        return now.time();
    }

    // ---- what the calls above ask of a trial

    private int keptIfOpened(int set) {
        trial.copy(now);
        trial.raiseAll(set);
        trial.passHours(ASKED_AHEAD);
        return trial.keptCount();
    }

    private int keptIfSent(int walker, int street) {
        trial.copy(now);
        trial.place(walker, street);
        trial.raise(walker);
        trial.passHours(ASKED_AHEAD);
        return trial.keptCount();
    }

    private int keptIfCome(int come) {
        trial.copy(now);
        trial.forget(now.openBits() & ~come);
        trial.raiseAll(come);
        trial.passHours(ASKED_AHEAD);
        return trial.keptCount();
    }

    /** One doing that is judged, by its three figures: false, if it can not be or is not so. */
    private boolean comesTrue(int kind, int middle, int last) {
        if (kind == 3) {
            return isChoice(last) && trial.move(middle, last == 1);
        }
        if (middle != 0) {
            return false;
        }
        switch (kind) {
            case 0:
                trial.passHour();
                return last == 0;
            case 1: return trial.raise(last);
            case 2: return trial.lower(last);
            case 4: return isStreet(last) && has(trial.rainBits(), last);
            case 5: return has(trial.needBits(KEPT), last);
            default: return false;
        }
    }

    private void doByChance(int pick) {
        if (pick < 5) {
            trial.raise(pick);
        } else if (pick < 10) {
            trial.lower(pick - 5);
        } else if (pick < 15) {
            trial.move(pick - 10, true);
        } else {
            trial.passHour();
        }
    }

    private boolean isContent(int walker, boolean opens, int other, boolean otherOpens) {
        return gain(walker, opens, other, otherOpens) >= gain(walker, !opens, other, otherOpens);
    }

    private int gain(int walker, boolean opens, int other, boolean otherOpens) {
        trial.copy(now);
        trial.raiseAll((opens ? 1 << walker : 0) | (otherOpens ? 1 << other : 0));
        int home = trial.placeOf(walker);
        boolean hail = has(trial.hailBits(), home);
        boolean rain = has(trial.rainBits(), home);
        return (rain && !hail ? 2 : 0) - (opens ? 1 : 0) - (hail ? 3 : 0);
    }

    // ---- small figures

    private static boolean isStreet(int street) {
        return street >= 0 && street < STREETS;
    }

    private static boolean isSlot(int slot) {
        return slot >= 0 && slot < SLOTS;
    }

    private static boolean isChoice(int what) {
        return what == 0 || what == 1;
    }

    /** The bound keeps a shift by 32 and more from wrapping to a low bit. */
    private static boolean has(int bits, int number) {
        return number >= 0 && number < 31 && (bits >> number & 1) == 1;
    }

    private static boolean isWithin(int set, int whole) {
        return (set & ~whole) == 0;
    }

    private static int at(int[] row, int index) {
        return index >= 0 && index < row.length ? row[index] : 0;
    }

    private static void put(int[] row, int index, int value) {
        if (index >= 0 && index < row.length) {
            row[index] = value;
        }
    }

    private static long withoutLast(long row, int doings) {
        long rest = row;
        for (int i = 0; i < doings; i++) {
            rest /= 1000;
        }
        return rest;
    }

    private static int ordersOf(int count) {
        int orders = 1;
        for (int i = 2; i <= count; i++) {
            orders *= i;
        }
        return orders;
    }

    private static int power(int base, int times) {
        int product = 1;
        for (int i = 0; i < times; i++) {
            product *= base;
        }
        return product;
    }

    private static int partOf(int above, int below, boolean upper) {
        int common = commonDivisor(Math.abs(above), below);
        if (common == 0) {
            return 0;
        }
        return upper ? above / common : below / common;
    }

    private static int commonDivisor(int a, int b) {
        int large = a;
        int small = b;
        for (int i = 0; i < 100 && small != 0; i++) {
            int left = large % small;
            large = small;
            small = left;
        }
        return large;
    }

    private static Scene[] scenes(Plan plan, int count) {
        Scene[] row = new Scene[count < 0 ? 0 : count];
        for (int i = 0; i < row.length; i++) {
            row[i] = new Scene(plan);
        }
        return row;
    }

    /** Null, if there is none at that place. */
    private static Scene sceneAt(Scene[] row, int index) {
        return index >= 0 && index < row.length ? row[index] : null;
    }

    /** THE TEXT. */
    private static final class Script {
        private final int[] bytes = new int[MOST_BYTES];
        private int length;

        int length() {
            return length;
        }

        void clear() {
            length = 0;
        }

        boolean append(int letter) {
            if (length >= bytes.length) {
                return false;
            }
            put(bytes, length, letter);
            length++;
            return true;
        }

        int byteAt(int index) {
            return at(bytes, index);
        }

        int figureAt(int index) {
            return byteAt(index) - '0';
        }

        int firstFault() {
            if (length == 0 || byteAt(0) != 'U') {
                return 0;
            }
            int walkers = 0;
            int needs = 0;
            int thing = 1;
            int next = 1;
            for (int i = 1; i < length; i++) {
                if (i == next) {
                    boolean isWalker = byteAt(i) == 'W';
                    boolean isNeed = byteAt(i) == 'N';
                    walkers += isWalker ? 1 : 0;
                    needs += isNeed ? 1 : 0;
                    if (!isWalker && !isNeed || walkers > MOST_WALKERS || needs > MOST_NEEDS) {
                        return i;
                    }
                    thing = i;
                    next = i + (isWalker ? 3 : 4);
                } else if (!isFitting(thing, i - thing)) {
                    return i;
                }
            }
            return next == length ? NONE : length;
        }

        private boolean isFitting(int thing, int k) {
            int figure = figureAt(thing + k);
            int least = 0;
            int bound = STREETS;
            if (k == 2) {
                bound = byteAt(thing) == 'W' ? STUFFS : SORTS;
            } else if (k == 3) {
                least = figureAt(thing + 2) == BEANS ? 1 : 0;
                bound = 10;
            }
            return figure >= least && figure < bound;
        }
    }

    /** What doings never change: who is in THE TOWN, and what is needed there. */
    private static final class Plan {
        private int walkers;
        private int needs;
        private final int[] homes = new int[MOST_WALKERS];
        private final int[] stuffs = new int[MOST_WALKERS];
        private final int[] needStreets = new int[MOST_NEEDS];
        private final int[] needSorts = new int[MOST_NEEDS];
        private final int[] needFigures = new int[MOST_NEEDS];

        /** The text must be without a FAULT. */
        void readFrom(Script text) {
            walkers = 0;
            needs = 0;
            for (int i = 1; i < text.length(); i++) {
                if (text.byteAt(i) == 'W') {
                    put(homes, walkers, text.figureAt(i + 1));
                    put(stuffs, walkers, text.figureAt(i + 2));
                    walkers++;
                } else if (text.byteAt(i) == 'N') {
                    put(needStreets, needs, text.figureAt(i + 1));
                    put(needSorts, needs, text.figureAt(i + 2));
                    put(needFigures, needs, text.figureAt(i + 3));
                    needs++;
                }
            }
        }

        int walkerCount() {
            return walkers;
        }

        int needCount() {
            return needs;
        }

        boolean hasWalker(int number) {
            return number >= 0 && number < walkers;
        }

        boolean hasNeed(int number) {
            return number >= 0 && number < needs;
        }

        int homeOf(int number) {
            return at(homes, number);
        }

        int stuffOf(int number) {
            return at(stuffs, number);
        }

        int streetOfNeed(int number) {
            return at(needStreets, number);
        }

        int sortOfNeed(int number) {
            return at(needSorts, number);
        }

        int figureOfNeed(int number) {
            return at(needFigures, number);
        }
    }

    /** What doings change. */
    private static final class Scene {
        private final Plan plan;
        private final int[] places = new int[MOST_WALKERS];
        private final int[] lasts = new int[STREETS];
        private final int[] wetness = new int[STREETS];
        private final int[] fates = new int[MOST_NEEDS];
        private int opened;
        private int time;

        Scene(Plan plan) {
            this.plan = plan;
        }

        void begin() {
            for (int i = 0; i < places.length; i++) {
                places[i] = plan.homeOf(i);
            }
            Arrays.fill(lasts, 0);
            Arrays.fill(wetness, 0);
            Arrays.fill(fates, OPEN);
            opened = 0;
            time = 0;
        }

        void copy(Scene other) {
            System.arraycopy(other.places, 0, places, 0, places.length);
            System.arraycopy(other.lasts, 0, lasts, 0, lasts.length);
            System.arraycopy(other.wetness, 0, wetness, 0, wetness.length);
            System.arraycopy(other.fates, 0, fates, 0, fates.length);
            opened = other.opened;
            time = other.time;
        }

        int time() {
            return time;
        }

        int placeOf(int number) {
            return at(places, number);
        }

        int lastsIn(int number) {
            return at(lasts, number);
        }

        int wetnessOf(int number) {
            return at(wetness, number);
        }

        int fateOf(int number) {
            return at(fates, number);
        }

        int openBits() {
            return opened;
        }

        int shutBits() {
            return (1 << plan.walkerCount()) - 1 & ~opened;
        }

        boolean isOpen(int number) {
            return has(opened, number);
        }

        int openIn(int number) {
            int count = 0;
            for (int i = 0; i < places.length; i++) {
                count += has(opened, i) && places[i] == number ? 1 : 0;
            }
            return count;
        }

        int rainBits() {
            int bits = 0;
            for (int i = 0; i < places.length; i++) {
                if (has(opened, i)) {
                    int home = 1 << places[i];
                    bits |= plan.stuffOf(i) == BISHOP ? home << 1 | home | home >> 1 : home;
                }
            }
            for (int i = 0; i < lasts.length; i++) {
                bits |= lasts[i] > 0 ? 1 << i : 0;
            }
            return bits & ALL_STREETS;
        }

        int hailBits() {
            int once = 0;
            int twice = 0;
            for (int i = 0; i < places.length; i++) {
                int home = has(opened, i) ? 1 << places[i] : 0;
                twice |= once & home;
                once |= home;
            }
            return twice;
        }

        int needBits(int fate) {
            int bits = 0;
            for (int i = 0; i < plan.needCount(); i++) {
                bits |= fateOf(i) == fate ? 1 << i : 0;
            }
            return bits;
        }

        int keptCount() {
            return Integer.bitCount(needBits(KEPT));
        }

        /** OPENED: false, if it can not be. */
        boolean raise(int number) {
            if (!plan.hasWalker(number) || isOpen(number)) {
                return false;
            }
            opened |= 1 << number;
            if (plan.stuffOf(number) == GINGHAM) {
                lastAtLeast(placeOf(number), GINGHAM_LASTS);
            }
            return true;
        }

        void raiseAll(int set) {
            for (int i = 0; i < MOST_WALKERS; i++) {
                if (has(set, i)) {
                    raise(i);
                }
            }
        }

        /** SHUT: false, if it can not be. */
        boolean lower(int number) {
            if (!plan.hasWalker(number) || !isOpen(number)) {
                return false;
            }
            opened &= ~(1 << number);
            if (plan.stuffOf(number) == SILK) {
                lastAtLeast(placeOf(number), SILK_LASTS);
            }
            return true;
        }

        /** For SHARE umbrellas are shut without what SHUT brings. */
        void forget(int set) {
            opened &= ~set;
        }

        private void lastAtLeast(int number, int hours) {
            put(lasts, number, Math.max(at(lasts, number), hours));
        }

        void place(int number, int home) {
            put(places, number, home);
        }

        boolean canMove(int number, boolean up) {
            return plan.hasWalker(number) && !isOpen(number) && isStreet(placeOf(number) + (up ? 1 : -1));
        }

        /** WALKED: false, if it can not be. */
        boolean move(int number, boolean up) {
            if (!canMove(number, up)) {
                return false;
            }
            place(number, placeOf(number) + (up ? 1 : -1));
            return true;
        }

        void passHours(int count) {
            for (int i = 0; i < count; i++) {
                passHour();
            }
        }

        /** AN HOUR: in which STREETS there was RAIN. */
        int passHour() {
            int rain = rainBits();
            int hail = hailBits();
            for (int i = 0; i < wetness.length; i++) {
                wetness[i] += has(hail, i) ? 2 : has(rain, i) ? 1 : 0;
            }
            for (int i = 0; i < plan.needCount(); i++) {
                if (fateOf(i) == OPEN) {
                    put(fates, i, fateInHour(i, has(rain, plan.streetOfNeed(i))));
                }
            }
            for (int i = 0; i < lasts.length; i++) {
                lasts[i] = Math.max(lasts[i] - 1, 0);
            }
            time++;
            return rain;
        }

        private int fateInHour(int number, boolean rain) {
            int figure = plan.figureOfNeed(number);
            if (plan.sortOfNeed(number) == BEANS) {
                return wetnessOf(plan.streetOfNeed(number)) >= figure ? KEPT : OPEN;
            }
            boolean due = time == figure;
            if (rain && (due || plan.sortOfNeed(number) == HAY)) {
                return BROKEN;
            }
            return due ? KEPT : OPEN;
        }
    }

    /** ACTS, each as the scene that it found. */
    private static final class Past {
        private final Scene[] found;
        private int first;
        private int count;

        Past(Plan plan) {
            found = scenes(plan, MOST_ACTS);
        }

        int size() {
            return count;
        }

        void clear() {
            count = 0;
        }

        void add(Scene scene) {
            if (count == MOST_ACTS) {
                first = (first + 1) % MOST_ACTS;
                count--;
            }
            Scene free = sceneAt(found, (first + count) % MOST_ACTS);
            if (free != null) {
                free.copy(scene);
            }
            count++;
        }

        void takeLast(Scene into) {
            if (count > 0) {
                count--;
                Scene last = sceneAt(found, (first + count) % MOST_ACTS);
                if (last != null) {
                    into.copy(last);
                }
            }
        }
    }

    /** SLOTS. */
    private static final class Slots {
        private final Scene[] stored;
        private int used;

        Slots(Plan plan) {
            stored = scenes(plan, SLOTS);
        }

        void clear() {
            used = 0;
        }

        void store(int slot, Scene scene) {
            Scene room = sceneAt(stored, slot);
            if (room != null) {
                room.copy(scene);
                used |= 1 << slot;
            }
        }

        /** False, if nothing was kept there. */
        boolean fetch(int slot, Scene into) {
            Scene room = sceneAt(stored, slot);
            if (room == null || !has(used, slot)) {
                return false;
            }
            into.copy(room);
            return true;
        }
    }

    /** What was FELT of one umbrella. */
    private static final class Felt {
        private final int[] streets = new int[MOST_FELT];
        private final int[] hours = new int[MOST_FELT];
        private int rains;
        private int count;

        int size() {
            return count;
        }

        void clear() {
            count = 0;
            rains = 0;
        }

        boolean add(int where, int when, boolean rain) {
            if (count >= MOST_FELT) {
                return false;
            }
            put(streets, count, where);
            put(hours, count, when);
            rains |= rain ? 1 << count : 0;
            count++;
            return true;
        }

        boolean isSo(int stuff, int home, int shut) {
            for (int i = 0; i < count; i++) {
                if (isWetAt(stuff, home, shut, at(streets, i), at(hours, i)) != has(rains, i)) {
                    return false;
                }
            }
            return true;
        }

        private static boolean isWetAt(int stuff, int home, int shut, int where, int when) {
            int reach = stuff == BISHOP ? 1 : 0;
            int end = shut;
            if (stuff == SILK) {
                end = shut + SILK_LASTS;
            } else if (stuff == GINGHAM) {
                end = Math.max(shut, GINGHAM_LASTS);
            }
            return Math.abs(where - home) <= reach && when < end;
        }
    }
}
