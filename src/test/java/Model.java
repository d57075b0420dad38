import java.math.BigInteger;
import java.util.ArrayList;
import java.util.Arrays;
import java.util.List;

/**
 * The document told a second time, in another way and without care for speed, so that
 * ModelTest can hold the class against it: worlds are copied, orders are walked one by one,
 * chances are followed through a tree, an umbrella that is felt is really opened.
 */
final class Model {
    static final int UNKNOWN = -1;
    static final int BAD = -2;
    static final int LATE = -3;
    static final int FULL = -4;
    static final int NONE = -9;
    private static final BigInteger TURN = BigInteger.ONE.shiftLeft(64);
    private static final String[] TAILS = {"", "0", "00", "000", "1", "01", "001", "10", "010"};

    /** All that acts change, and who there is. */
    private static final class World {
        int[][] walkers = {};
        int[][] needs = {};
        boolean[] up = {};
        String[] fate = {};
        int[] rainLeft = new int[6];
        int[] wetness = new int[6];
        int clock = 0;

        World twin() {
            World w = new World();
            w.walkers = new int[walkers.length][];
            for (int i = 0; i < walkers.length; i++) {
                w.walkers[i] = walkers[i].clone();
            }
            w.needs = needs;
            w.up = up.clone();
            w.fate = fate.clone();
            w.rainLeft = rainLeft.clone();
            w.wetness = wetness.clone();
            w.clock = clock;
            return w;
        }

        int umbrellas(int s) {
            int n = 0;
            for (int i = 0; i < up.length; i++) {
                if (up[i] && walkers[i][0] == s) {
                    n++;
                }
            }
            return n;
        }

        boolean rainsIn(int s) {
            if (umbrellas(s) > 0 || rainLeft[s] > 0) {
                return true;
            }
            for (int i = 0; i < up.length; i++) {
                if (up[i] && walkers[i][1] == 3 && Math.abs(walkers[i][0] - s) == 1) {
                    return true;
                }
            }
            return false;
        }

        boolean hailsIn(int s) {
            return umbrellas(s) > 1;
        }

        int bits(boolean hail) {
            int b = 0;
            for (int s = 0; s < 6; s++) {
                if (hail ? hailsIn(s) : rainsIn(s)) {
                    b += 1 << s;
                }
            }
            return b;
        }

        int needsThat(String are) {
            int b = 0;
            for (int i = 0; i < fate.length; i++) {
                if (fate[i].equals(are)) {
                    b += 1 << i;
                }
            }
            return b;
        }

        int kept() {
            return Integer.bitCount(needsThat("kept"));
        }

        boolean can(char act, int w) {
            if (w < 0 || w >= up.length) {
                return false;
            }
            switch (act) {
                case 'o': return !up[w];
                case 's': return up[w];
                case 'u': return !up[w] && walkers[w][0] < 5;
                default: return !up[w] && walkers[w][0] > 0;
            }
        }

        boolean act(char act, int w) {
            if (!can(act, w)) {
                return false;
            }
            int s = walkers[w][0];
            if (act == 'o') {
                up[w] = true;
                if (walkers[w][1] == 2 && rainLeft[s] < 7) {
                    rainLeft[s] = 7;
                }
            } else if (act == 's') {
                up[w] = false;
                if (walkers[w][1] == 1 && rainLeft[s] < 1) {
                    rainLeft[s] = 1;
                }
            } else {
                walkers[w][0] += act == 'u' ? 1 : -1;
            }
            return true;
        }

        void anHour() {
            boolean[] rain = new boolean[6];
            for (int s = 0; s < 6; s++) {
                rain[s] = rainsIn(s);
                if (rain[s]) {
                    wetness[s]++;
                }
                if (hailsIn(s)) {
                    wetness[s]++;
                }
            }
            for (int i = 0; i < needs.length; i++) {
                if (fate[i].equals("open")) {
                    fate[i] = fateOf(needs[i], rain[needs[i][0]]);
                }
            }
            for (int s = 0; s < 6; s++) {
                if (rainLeft[s] > 0) {
                    rainLeft[s]--;
                }
            }
            clock++;
        }

        private String fateOf(int[] need, boolean rain) {
            int h = need[2];
            if (need[1] == 0) {
                if (rain && clock <= h) {
                    return "broken";
                }
                return clock == h ? "kept" : "open";
            }
            if (need[1] == 1) {
                return wetness[need[0]] >= h ? "kept" : "open";
            }
            if (clock != h) {
                return "open";
            }
            return rain ? "broken" : "kept";
        }

        World later(int hours) {
            World w = twin();
            for (int i = 0; i < hours; i++) {
                w.anHour();
            }
            return w;
        }
    }

    private String text = "";
    private World world = new World();
    private final List<World> history = new ArrayList<>();
    private final World[] slots = new World[2];
    private final List<int[]> felt = new ArrayList<>();
    private BigInteger seed = BigInteger.ZERO;

    int write(int letter) {
        if (letter < 0 || letter > 255) {
            return BAD;
        }
        if (text.length() == 48) {
            return FULL;
        }
        text += (char) letter;
        return text.length();
    }

    int wipe() {
        int was = text.length();
        text = "";
        return was;
    }

    private static boolean isTown(String t) {
        return t.matches("U(W[0-5][0-3]|N[0-5][02][0-9]|N[0-5]1[1-9])*")
            && t.replaceAll("[^W]", "").length() <= 5 && t.replaceAll("[^N]", "").length() <= 5;
    }

    private static boolean mayBecomeTown(String t) {
        if (t.isEmpty()) {
            return true;
        }
        for (String tail : TAILS) {
            if (isTown(t + tail)) {
                return true;
            }
        }
        return false;
    }

    int fault() {
        for (int i = 1; i <= text.length(); i++) {
            if (!mayBecomeTown(text.substring(0, i))) {
                return i - 1;
            }
        }
        return isTown(text) ? NONE : text.length();
    }

    int town() {
        if (!isTown(text)) {
            return LATE;
        }
        List<int[]> walkers = new ArrayList<>();
        List<int[]> needs = new ArrayList<>();
        for (String thing : text.substring(1).split("(?=[WN])")) {
            if (thing.startsWith("W")) {
                walkers.add(new int[] {thing.charAt(1) - 48, thing.charAt(2) - 48});
            } else if (thing.startsWith("N")) {
                needs.add(new int[] {thing.charAt(1) - 48, thing.charAt(2) - 48, thing.charAt(3) - 48});
            }
        }
        world = new World();
        world.walkers = walkers.toArray(new int[0][]);
        world.needs = needs.toArray(new int[0][]);
        world.up = new boolean[walkers.size()];
        world.fate = new String[needs.size()];
        Arrays.fill(world.fate, "open");
        history.clear();
        Arrays.fill(slots, null);
        return walkers.size() * 10 + needs.size();
    }

    private int openBits() {
        int b = 0;
        for (int i = 0; i < world.up.length; i++) {
            b += world.up[i] ? 1 << i : 0;
        }
        return b;
    }

    int about(int what) {
        int[] all = {world.up.length, world.needs.length, world.clock, openBits(), world.bits(false), world.bits(true),
            world.needsThat("kept"), world.needsThat("broken"), history.size(), felt.size(), text.length()};
        return what >= 0 && what < all.length ? all[what] : BAD;
    }

    private boolean noWalker(int w) {
        return w < 0 || w >= world.up.length;
    }

    private static boolean noStreet(int s) {
        return s < 0 || s > 5;
    }

    int walker(int w, int what) {
        if (noWalker(w)) {
            return UNKNOWN;
        }
        int[] all = {world.walkers[w][0], world.walkers[w][1], world.up[w] ? 1 : 0};
        return what >= 0 && what < all.length ? all[what] : BAD;
    }

    int need(int n, int what) {
        if (n < 0 || n >= world.needs.length) {
            return UNKNOWN;
        }
        if (what == 3) {
            return Arrays.asList("open", "kept", "broken").indexOf(world.fate[n]);
        }
        return what >= 0 && what < 3 ? world.needs[n][what] : BAD;
    }

    int street(int s, int what) {
        if (noStreet(s)) {
            return UNKNOWN;
        }
        int[] all = {world.wetness[s], world.rainLeft[s], world.umbrellas(s)};
        return what >= 0 && what < all.length ? all[what] : BAD;
    }

    private void remember() {
        history.add(world.twin());
        if (history.size() > 14) {
            history.remove(0);
        }
    }

    private int acted(char act, int w) {
        if (noWalker(w)) {
            return UNKNOWN;
        }
        if (!world.can(act, w)) {
            return LATE;
        }
        remember();
        world.act(act, w);
        return act == 'o' || act == 's' ? world.umbrellas(world.walkers[w][0]) : world.walkers[w][0];
    }

    int open(int w) {
        return acted('o', w);
    }

    int shut(int w) {
        return acted('s', w);
    }

    int walk(int w, boolean up) {
        return acted(up ? 'u' : 'd', w);
    }

    int hour() {
        remember();
        int rain = world.bits(false);
        world.anHour();
        return rain;
    }

    int undo() {
        if (history.isEmpty()) {
            return LATE;
        }
        world = history.remove(history.size() - 1);
        return history.size();
    }

    int wet(int s, int n) {
        if (noStreet(s)) {
            return UNKNOWN;
        }
        return n < 0 || n > 20 ? BAD : world.later(n).wetness[s];
    }

    int needs(int n, int what) {
        if (n < 0 || n > 20 || what < 0 || what > 1) {
            return BAD;
        }
        return world.later(n).needsThat(what == 0 ? "kept" : "broken");
    }

    int dry(int s) {
        if (noStreet(s)) {
            return UNKNOWN;
        }
        for (int n = 0; n <= 20; n++) {
            if (!world.later(n).rainsIn(s)) {
                return n;
            }
        }
        return NONE;
    }

    /** Best first by one figure: more kept, then fewer walkers, then the least bits. */
    int asked(int what) {
        if (what < 0 || what > 1) {
            return BAD;
        }
        int best = -1;
        for (int set = 31; set >= 0; set--) {
            World w = world.twin();
            boolean fits = true;
            for (int i = 0; i < 5; i++) {
                fits &= (set >> i & 1) == 0 || w.act('o', i);
            }
            if (fits) {
                int worth = w.later(9).kept() * 1000 + (5 - Integer.bitCount(set)) * 100 + 31 - set;
                best = Math.max(best, worth);
            }
        }
        return what == 0 ? 31 - best % 100 : best / 1000;
    }

    int sent(int walker, int what) {
        if (noWalker(walker)) {
            return UNKNOWN;
        }
        if (what < 0 || what > 1) {
            return BAD;
        }
        if (world.up[walker]) {
            return LATE;
        }
        int best = -1;
        for (int s = 0; s < 6; s++) {
            World w = world.twin();
            w.walkers[walker][0] = s;
            w.act('o', walker);
            best = Math.max(best, w.later(9).kept() * 10 + 5 - s);
        }
        return what == 0 ? 5 - best % 10 : best / 10;
    }

    int judge(int n, long row) {
        if (n < 1 || n > 4 || row < 0 || Long.toString(row).length() > 3 * n) {
            return BAD;
        }
        String figures = Long.toString(row);
        while (figures.length() < 3 * n) {
            figures = "0" + figures;
        }
        World w = world.twin();
        for (int i = 0; i < n; i++) {
            if (!told(w, figures.substring(3 * i, 3 * i + 3))) {
                return i;
            }
        }
        return NONE;
    }

    private boolean told(World w, String doing) {
        int last = doing.charAt(2) - 48;
        if (doing.equals("000")) {
            w.anHour();
            return true;
        }
        if (doing.startsWith("10")) {
            return w.act('o', last);
        }
        if (doing.startsWith("20")) {
            return w.act('s', last);
        }
        if (doing.matches("3.[01]")) {
            return w.act(last == 1 ? 'u' : 'd', doing.charAt(1) - 48);
        }
        if (doing.startsWith("40")) {
            return last < 6 && w.rainsIn(last);
        }
        return doing.startsWith("50") && last < w.fate.length && w.fate[last].equals("kept");
    }

    int share(int walker, boolean upper) {
        if (noWalker(walker)) {
            return UNKNOWN;
        }
        int[] sum = new int[2];
        walkOrders(new ArrayList<>(), walker, sum);
        return fraction(sum[0], sum[1], upper);
    }

    /** Every order of all walkers: what this one brings is added, and the order counted. */
    private void walkOrders(List<Integer> order, int walker, int[] sum) {
        if (order.size() == world.up.length) {
            int at = order.indexOf(walker);
            sum[0] += keptBy(order.subList(0, at + 1)) - keptBy(order.subList(0, at));
            sum[1]++;
            return;
        }
        for (int i = 0; i < world.up.length; i++) {
            if (!order.contains(i)) {
                order.add(i);
                walkOrders(order, walker, sum);
                order.remove(order.size() - 1);
            }
        }
    }

    private int keptBy(List<Integer> come) {
        World w = world.twin();
        for (int i = 0; i < w.up.length; i++) {
            if (!come.contains(i)) {
                w.up[i] = false;
            } else if (!w.up[i]) {
                w.act('o', i);
            }
        }
        return w.later(9).kept();
    }

    private static int fraction(long above, long below, boolean upper) {
        long g = BigInteger.valueOf(above).gcd(BigInteger.valueOf(below)).longValue();
        return (int) ((upper ? above : below) / g);
    }

    int feel(int s, int t, int rain) {
        if (noStreet(s)) {
            return UNKNOWN;
        }
        if (t < 0 || t > 9 || rain < 0 || rain > 1) {
            return BAD;
        }
        if (felt.size() == 6) {
            return FULL;
        }
        felt.add(new int[] {s, t, rain});
        return felt.size();
    }

    int unfeel() {
        int was = felt.size();
        felt.clear();
        return was;
    }

    int may(int what) {
        if (what < 0 || what > 1) {
            return BAD;
        }
        List<Integer> all = new ArrayList<>();
        for (int code = 0; code < 400; code++) {
            int y = code / 10 % 10;
            int u = code % 10;
            if (y < 6 && u > 0 && u < 7 && couldBe(code / 100, y, u)) {
                all.add(code);
            }
        }
        return what == 0 ? all.size() : all.isEmpty() ? NONE : all.get(0);
    }

    private boolean couldBe(int stuff, int y, int u) {
        World w = new World();
        w.walkers = new int[][] {{y, stuff}};
        w.up = new boolean[1];
        w.act('o', 0);
        for (int t = 0; t < 10; t++) {
            if (t == u) {
                w.act('s', 0);
            }
            for (int[] f : felt) {
                if (f[1] == t && w.rainsIn(f[0]) != (f[2] == 1)) {
                    return false;
                }
            }
            w.anHour();
        }
        return true;
    }

    int rests(int one, int other, int what) {
        if (noWalker(one) || noWalker(other)) {
            return UNKNOWN;
        }
        if (one == other || what < 0 || what > 1) {
            return BAD;
        }
        if (world.up[one] || world.up[other]) {
            return LATE;
        }
        int[][][] has = new int[2][2][];
        for (int a = 0; a < 2; a++) {
            for (int b = 0; b < 2; b++) {
                World w = world.twin();
                w.up[one] = a == 1;
                w.up[other] = b == 1;
                has[a][b] = new int[] {worth(w, one), worth(w, other)};
            }
        }
        List<Integer> all = new ArrayList<>();
        for (int a = 0; a < 2; a++) {
            for (int b = 0; b < 2; b++) {
                if (has[1 - a][b][0] <= has[a][b][0] && has[a][1 - b][1] <= has[a][b][1]) {
                    all.add(10 * a + b);
                }
            }
        }
        return what == 0 ? all.size() : all.isEmpty() ? NONE : all.get(0);
    }

    private static int worth(World w, int walker) {
        int s = w.walkers[walker][0];
        int worth = w.up[walker] ? -1 : 0;
        if (w.hailsIn(s)) {
            return worth - 3;
        }
        return w.rainsIn(s) ? worth + 2 : worth;
    }

    int sudden(int s, int what, int x, boolean upper) {
        if (noStreet(s)) {
            return UNKNOWN;
        }
        if (what < 0 || what > 1 || x < 0 || x > 10) {
            return BAD;
        }
        int below = 1;
        for (boolean open : world.up) {
            below *= open ? 1 : 10;
        }
        return fraction(chances(world, 0, s, what, x), below, upper);
    }

    private static int chances(World w, int walker, int s, int what, int x) {
        if (walker == w.up.length) {
            return (what == 0 ? w.rainsIn(s) : w.hailsIn(s)) ? 1 : 0;
        }
        if (w.up[walker]) {
            return chances(w, walker + 1, s, what, x);
        }
        World opened = w.twin();
        opened.act('o', walker);
        return x * chances(opened, walker + 1, s, what, x) + (10 - x) * chances(w, walker + 1, s, what, x);
    }

    long seed(long v) {
        long was = seed.longValue();
        seed = BigInteger.valueOf(v).mod(TURN);
        return was;
    }

    int weeks(int m) {
        if (m < 1 || m > 30) {
            return BAD;
        }
        World w = world.twin();
        int sum = 0;
        for (int i = 0; i < m; i++) {
            seed = seed.multiply(new BigInteger("6364136223846793005")).add(new BigInteger("1442695040888963407")).mod(TURN);
            int pick = seed.shiftRight(33).mod(BigInteger.valueOf(24)).intValue();
            if (pick >= 15) {
                w.anHour();
            } else {
                w.act("osu".charAt(pick / 5), pick % 5);
            }
            sum += Integer.bitCount(w.bits(false));
        }
        return sum;
    }

    int keep(int slot) {
        if (slot < 0 || slot > 1) {
            return UNKNOWN;
        }
        slots[slot] = world.twin();
        return world.clock;
    }

    int again(int slot) {
        if (slot < 0 || slot > 1) {
            return UNKNOWN;
        }
        if (slots[slot] == null) {
            return LATE;
        }
        world = slots[slot].twin();
        history.clear();
        return world.clock;
    }
}
