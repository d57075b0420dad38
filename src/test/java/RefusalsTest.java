import java.util.ArrayList;
import java.util.List;

/**
 * Every refusal of promises 1 to 30: arguments at the ends of int and long and at both sides of each bound, each with each,
 * so that where more than one refusal would be due the first that is told answers; and behind each refused call the object
 * is held, by all that it shows, against one that was made by the same calls without it.
 */
public final class RefusalsTest {
    private static final int UNKNOWN = -1;
    private static final int BAD = -2;
    private static final int LATE = -3;
    private static final int FULL = -4;
    private static final int NONE = -9;
    /** No refusal is due. */
    private static final int FREE = 0;
    private static final int MIN = Integer.MIN_VALUE;
    private static final int MAX = Integer.MAX_VALUE;
    private static final String TOWN = "UW00W11W22W33W50N019N108N225N318N529";

    private interface Made {
        FirstUmbrella anew();
    }

    private interface Call {
        long on(FirstUmbrella x);
    }

    private final String state;
    private final Made made;
    private final int walkers;
    private final int needs;
    private final List<Integer> open;
    private final String before;

    private RefusalsTest(String state, Made made) {
        this.state = state;
        this.made = made;
        FirstUmbrella x = made.anew();
        walkers = x.about(0);
        needs = x.about(1);
        open = new ArrayList<>();
        for (int i = 0; i < 5; i++) {
            if (x.walker(i, 2) == 1) {
                open.add(i);
            }
        }
        before = Towns.whole(x);
    }

    public static void main(String[] args) {
        Made[] states = {FirstUmbrella::new, RefusalsTest::fullTown, RefusalsTest::smallTown};
        String[] names = {"nothing there", "all full", "three walkers, two needs"};
        for (int i = 0; i < states.length; i++) {
            RefusalsTest test = new RefusalsTest(names[i], states[i]);
            test.theStateIsSeenWhole();
            test.telling();
            test.acting();
            test.ahead();
            test.judging();
            test.feltAndChances();
            test.restsOfTwo();
            test.slots();
        }
        fullText();
        fullFelt();
        nothingToUndo();
        nothingKept();
        Check.end();
    }

    /** All that there can be: 5 walkers of all stuffs, 5 needs of all fates, 14 acts, 6 felt, both slots, a full text. */
    private static FirstUmbrella fullTown() {
        FirstUmbrella x = Towns.of(TOWN);
        x.open(0);
        x.hour();
        x.keep(0);
        x.open(2);
        x.walk(4, false);
        Towns.hours(x, 8);
        x.open(3);
        x.keep(1);
        x.hour();
        x.open(1);
        x.shut(1);
        x.walk(1, true);
        x.shut(2);
        x.open(2);
        for (int t = 0; t < 6; t++) {
            x.feel(t % 2, t, t % 2);
        }
        x.seed(Long.MIN_VALUE + 7);
        Towns.write(x, "UUUUUUUUUUUU");
        return x;
    }

    /** A town below its bounds, with an act, a slot, something felt, and a text that is no town. */
    private static FirstUmbrella smallTown() {
        FirstUmbrella x = Towns.of("UW02W11W53N019N520");
        x.keep(1);
        x.open(1);
        x.feel(5, 9, 0);
        x.feel(2, 5, 1);
        x.seed(-1);
        x.wipe();
        Towns.write(x, "UW53N52");
        return x;
    }

    private void theStateIsSeenWhole() {
        Check.due(state + ": made twice, it shows the same", Towns.whole(made.anew()), before);
    }

    /** What is due of a call; where it is FREE, that it is not refused. */
    private void call(int promise, String call, Call asked, int due) {
        String told = "Promise " + promise + ", " + state + ": " + call;
        FirstUmbrella x = made.anew();
        long got = asked.on(x);
        if (due == FREE) {
            Check.due(told + " is free", got >= 0 || got == NONE ? FREE : got, FREE);
            return;
        }
        Check.due(told, got, due);
        Check.due(told + " changes nothing", Towns.whole(x), before);
    }

    /** Both sides of each end of 0 to most, the ends of int, and what a shift of 32 bits would take for the least. */
    private static int[] around(int most) {
        return new int[] {MIN, MIN + 1, -2, -1, 0, most, most + 1, most + 2, 30, 31, 32, 33, 64, 256, MAX - 1, MAX};
    }

    /** The same, fewer: for calls of three figures. */
    private static int[] ends(int most) {
        return new int[] {MIN, -1, 0, most, most + 1, 32, MAX};
    }

    private static boolean isIn(int figure, int most) {
        return figure >= 0 && figure <= most;
    }

    private void telling() {
        for (int a : around(10)) {
            call(6, "about(" + a + ")", x -> x.about(a), isIn(a, 10) ? FREE : BAD);
        }
        for (int what : around(2)) {
            for (int w : around(walkers - 1)) {
                int due = !isIn(w, walkers - 1) ? UNKNOWN : !isIn(what, 2) ? BAD : FREE;
                call(7, "walker(" + w + ", " + what + ")", x -> x.walker(w, what), due);
            }
            for (int s : around(5)) {
                int due = !isIn(s, 5) ? UNKNOWN : !isIn(what, 2) ? BAD : FREE;
                call(9, "street(" + s + ", " + what + ")", x -> x.street(s, what), due);
            }
        }
        for (int what : around(3)) {
            for (int n : around(needs - 1)) {
                int due = !isIn(n, needs - 1) ? UNKNOWN : !isIn(what, 3) ? BAD : FREE;
                call(8, "need(" + n + ", " + what + ")", x -> x.need(n, what), due);
            }
        }
    }

    private void acting() {
        for (int w : withAllWalkers()) {
            boolean none = !isIn(w, walkers - 1);
            boolean isOpen = open.contains(w);
            call(10, "open(" + w + ")", x -> x.open(w), none ? UNKNOWN : isOpen ? LATE : FREE);
            call(11, "shut(" + w + ")", x -> x.shut(w), none ? UNKNOWN : isOpen ? FREE : LATE);
            int street = none ? 0 : made.anew().walker(w, 0);
            call(12, "walk(" + w + ", true)", x -> x.walk(w, true), none ? UNKNOWN : isOpen || street == 5 ? LATE : FREE);
            call(12, "walk(" + w + ", false)", x -> x.walk(w, false), none ? UNKNOWN : isOpen || street == 0 ? LATE : FREE);
        }
        call(5, "town() with a fault", FirstUmbrella::town, LATE);
    }

    private int[] withAllWalkers() {
        int[] all = new int[21];
        System.arraycopy(around(walkers - 1), 0, all, 0, 16);
        for (int i = 0; i < 5; i++) {
            all[16 + i] = i;
        }
        return all;
    }

    private void ahead() {
        for (int n : around(20)) {
            for (int s : around(5)) {
                int due = !isIn(s, 5) ? UNKNOWN : !isIn(n, 20) ? BAD : FREE;
                call(15, "wet(" + s + ", " + n + ")", x -> x.wet(s, n), due);
            }
            for (int what : around(1)) {
                int due = isIn(n, 20) && isIn(what, 1) ? FREE : BAD;
                call(16, "needs(" + n + ", " + what + ")", x -> x.needs(n, what), due);
            }
        }
        for (int s : around(5)) {
            call(17, "dry(" + s + ")", x -> x.dry(s), isIn(s, 5) ? FREE : UNKNOWN);
        }
        for (int what : around(1)) {
            call(18, "asked(" + what + ")", x -> x.asked(what), isIn(what, 1) ? FREE : BAD);
            for (int w : withAllWalkers()) {
                int due = !isIn(w, walkers - 1) ? UNKNOWN : !isIn(what, 1) ? BAD : open.contains(w) ? LATE : FREE;
                call(19, "sent(" + w + ", " + what + ")", x -> x.sent(w, what), due);
            }
        }
        for (int w : around(walkers - 1)) {
            int due = isIn(w, walkers - 1) ? FREE : UNKNOWN;
            call(21, "share(" + w + ", false)", x -> x.share(w, false), due);
            if (due == UNKNOWN) {
                call(21, "share(" + w + ", true)", x -> x.share(w, true), due);
            }
        }
    }

    private void judging() {
        long[] rows = {Long.MIN_VALUE, Long.MIN_VALUE + 1, -1000, -1, 0, 999, 1000, 999999, 1000000, 999999999, 1000000000,
            999999999999L, 1000000000000L, 999999999999999L, 1L << 32, 1L << 62, Long.MAX_VALUE};
        int[] numbers = {MIN, -1, 0, 1, 2, 3, 4, 5, 6, 32, 33, MAX};
        for (int n : numbers) {
            for (long row : rows) {
                boolean fits = row >= 0 && isIn(n - 1, 3) && Long.toString(row).length() <= 3 * n;
                call(20, "judge(" + n + ", " + row + ")", x -> x.judge(n, row), fits ? FREE : BAD);
            }
        }
    }

    private void feltAndChances() {
        boolean full = made.anew().about(9) == 6;
        for (int s : ends(5)) {
            for (int what : ends(1)) {
                for (int t : ends(9)) {
                    int due = !isIn(s, 5) ? UNKNOWN : !isIn(t, 9) || !isIn(what, 1) ? BAD : full ? FULL : FREE;
                    call(22, "feel(" + s + ", " + t + ", " + what + ")", x -> x.feel(s, t, what), due);
                }
                for (int tenths : ends(10)) {
                    int due = !isIn(s, 5) ? UNKNOWN : !isIn(what, 1) || !isIn(tenths, 10) ? BAD : FREE;
                    String figures = "sudden(" + s + ", " + what + ", " + tenths;
                    call(26, figures + ", true)", x -> x.sudden(s, what, tenths, true), due);
                    call(26, figures + ", false)", x -> x.sudden(s, what, tenths, false), due);
                }
            }
        }
        for (int what : around(1)) {
            call(24, "may(" + what + ")", x -> x.may(what), isIn(what, 1) ? FREE : BAD);
        }
        for (int m : around(30)) {
            call(28, "weeks(" + m + ")", x -> x.weeks(m), isIn(m - 1, 29) ? FREE : BAD);
        }
        call(28, "weeks(1)", x -> x.weeks(1), FREE);
    }

    private void restsOfTwo() {
        int[] whats = {MIN, -1, 0, 1, 2, 32, MAX};
        for (int one : withAllWalkers()) {
            for (int other : withAllWalkers()) {
                boolean none = !isIn(one, walkers - 1) || !isIn(other, walkers - 1);
                boolean late = open.contains(one) || open.contains(other);
                for (int what : whats) {
                    int due = none ? UNKNOWN : one == other || !isIn(what, 1) ? BAD : late ? LATE : FREE;
                    call(25, "rests(" + one + ", " + other + ", " + what + ")", x -> x.rests(one, other, what), due);
                }
            }
        }
    }

    private void slots() {
        for (int slot : around(1)) {
            call(29, "keep(" + slot + ")", x -> x.keep(slot), isIn(slot, 1) ? FREE : UNKNOWN);
            if (!isIn(slot, 1)) {
                call(30, "again(" + slot + ")", x -> x.again(slot), UNKNOWN);
            }
        }
    }

    private static void fullText() {
        RefusalsTest full = new RefusalsTest("a full text", RefusalsTest::fullTown);
        for (int letter : around(255)) {
            full.call(2, "write(" + letter + ")", x -> x.write(letter), isIn(letter, 255) ? FULL : BAD);
        }
        RefusalsTest nearly = new RefusalsTest("a text of 47", () -> Towns.written("U".repeat(47)));
        for (int letter : around(255)) {
            nearly.call(2, "write(" + letter + ")", x -> x.write(letter), isIn(letter, 255) ? FREE : BAD);
        }
    }

    private static void fullFelt() {
        RefusalsTest nearly = new RefusalsTest("five felt", () -> {
            FirstUmbrella x = new FirstUmbrella();
            for (int i = 0; i < 5; i++) {
                x.feel(0, i, 0);
            }
            return x;
        });
        nearly.call(22, "feel(0, 9, 1)", x -> x.feel(0, 9, 1), FREE);
        nearly.call(22, "feel(0, 10, 1)", x -> x.feel(0, 10, 1), BAD);
        nearly.call(22, "feel(6, 0, 1)", x -> x.feel(6, 0, 1), UNKNOWN);
    }

    private static void nothingToUndo() {
        new RefusalsTest("nothing there", FirstUmbrella::new).call(14, "undo()", FirstUmbrella::undo, LATE);
        new RefusalsTest("a town made anew", () -> {
            FirstUmbrella x = fullTown();
            x.wipe();
            Towns.write(x, TOWN);
            x.town();
            return x;
        }).call(14, "undo()", FirstUmbrella::undo, LATE);
        new RefusalsTest("gone on from a slot", () -> {
            FirstUmbrella x = fullTown();
            x.again(0);
            return x;
        }).call(14, "undo()", FirstUmbrella::undo, LATE);
        new RefusalsTest("all undone", () -> {
            FirstUmbrella x = fullTown();
            for (int i = 0; i < 14; i++) {
                x.undo();
            }
            return x;
        }).call(14, "undo()", FirstUmbrella::undo, LATE);
    }

    private static void nothingKept() {
        RefusalsTest one = new RefusalsTest("one slot kept", RefusalsTest::smallTown);
        one.call(30, "again(0)", x -> x.again(0), LATE);
        one.call(30, "again(1)", x -> x.again(1), FREE);
        RefusalsTest none = new RefusalsTest("nothing there", FirstUmbrella::new);
        none.call(30, "again(0)", x -> x.again(0), LATE);
        none.call(30, "again(1)", x -> x.again(1), LATE);
    }
}
