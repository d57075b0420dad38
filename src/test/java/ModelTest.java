import java.util.Random;

/** All promises: long runs of calls, the same ones to the class and to the Model. */
public final class ModelTest {
    private static final int RUNS = 1200;
    private static final int CALLS = 512;

    private final Random random;
    private final FirstUmbrella x = new FirstUmbrella();
    private final Model y = new Model();
    private final String run;

    private ModelTest(int run) {
        random = new Random(run);
        this.run = "run " + run + ": ";
    }

    public static void main(String[] args) {
        for (int run = 0; run < RUNS; run++) {
            ModelTest test = new ModelTest(run);
            int calls = run % 20 == 19 ? test.writeTown(test.randomBytes()) : test.writeTown(test.randomTown());
            for (; calls < CALLS; calls++) {
                test.call();
            }
        }
        Check.end();
    }

    private int below(int bound) {
        return random.nextInt(bound);
    }

    /** Mostly 0 to most; now and then just outside, or far outside. */
    private int figure(int most) {
        int luck = below(40);
        if (luck == 0) {
            return -1;
        }
        if (luck == 1) {
            return most + 1;
        }
        if (luck == 2) {
            return random.nextInt();
        }
        return below(most + 1);
    }

    private boolean coin() {
        return random.nextBoolean();
    }

    private String randomTown() {
        StringBuilder text = new StringBuilder("U");
        int walkers = below(6);
        int needs = below(6);
        int narrow = below(3) == 0 ? 2 : 6;
        int from = below(7 - narrow);
        while (walkers > 0 || needs > 0) {
            if (walkers > 0 && (needs == 0 || coin())) {
                text.append('W').append(from + below(narrow)).append(below(4));
                walkers--;
            } else {
                int sort = below(3);
                text.append('N').append(from + below(narrow)).append(sort).append(sort == 1 ? 1 + below(9) : below(10));
                needs--;
            }
        }
        return text.toString();
    }

    private String randomBytes() {
        String town = randomTown();
        int at = below(town.length());
        String wrong = "UWN0123456789:/\u00ff\u0000".charAt(below(17)) + "";
        return town.substring(0, at) + wrong + town.substring(Math.min(town.length(), at + below(2)));
    }

    /** How many calls were made. */
    private int writeTown(String text) {
        for (int i = 0; i < text.length(); i++) {
            same("write(" + (int) text.charAt(i) + ")", x.write(text.charAt(i)), y.write(text.charAt(i)));
            if (i % 5 == 0) {
                same("fault()", x.fault(), y.fault());
            }
        }
        same("fault()", x.fault(), y.fault());
        same("town()", x.town(), y.town());
        return text.length() + text.length() / 5 + 3;
    }

    private void same(String call, long got, long due) {
        Check.due(run + call, got, due);
    }

    private void call() {
        int kind = below(100);
        if (kind < 4) {
            callText();
        } else if (kind < 26) {
            callReadings();
        } else if (kind < 62) {
            callActs();
        } else if (kind < 80) {
            callAhead();
        } else if (kind < 86) {
            callFelt();
        } else {
            callChancesAndSlots();
        }
    }

    private void callText() {
        switch (below(12)) {
            case 0: same("wipe()", x.wipe(), y.wipe()); break;
            case 1: same("town()", x.town(), y.town()); break;
            case 2: same("fault()", x.fault(), y.fault()); break;
            default:
                int letter = below(5) == 0 ? figure(255) : "UWN0123459".charAt(below(10));
                same("write(" + letter + ")", x.write(letter), y.write(letter));
        }
    }

    private void callReadings() {
        int a = figure(5);
        int b = figure(3);
        switch (below(4)) {
            case 0: b = figure(10); same("about(" + b + ")", x.about(b), y.about(b)); break;
            case 1: same("walker(" + a + ", " + b + ")", x.walker(a, b), y.walker(a, b)); break;
            case 2: same("need(" + a + ", " + b + ")", x.need(a, b), y.need(a, b)); break;
            default: same("street(" + a + ", " + b + ")", x.street(a, b), y.street(a, b));
        }
    }

    private void callActs() {
        int w = figure(4);
        boolean up = coin();
        switch (below(9)) {
            case 0: case 1: same("open(" + w + ")", x.open(w), y.open(w)); break;
            case 2: case 3: same("shut(" + w + ")", x.shut(w), y.shut(w)); break;
            case 4: case 5: same("walk(" + w + ", " + up + ")", x.walk(w, up), y.walk(w, up)); break;
            case 6: case 7: same("hour()", x.hour(), y.hour()); break;
            default: same("undo()", x.undo(), y.undo());
        }
    }

    private void callAhead() {
        int a = figure(5);
        int what = figure(1);
        int n = figure(20);
        boolean upper = coin();
        switch (below(8)) {
            case 0: same("wet(" + a + ", " + n + ")", x.wet(a, n), y.wet(a, n)); break;
            case 1: same("needs(" + n + ", " + what + ")", x.needs(n, what), y.needs(n, what)); break;
            case 2: same("dry(" + a + ")", x.dry(a), y.dry(a)); break;
            case 3: same("asked(" + what + ")", x.asked(what), y.asked(what)); break;
            case 4: same("sent(" + a + ", " + what + ")", x.sent(a, what), y.sent(a, what)); break;
            case 5: same("share(" + a + ", " + upper + ")", x.share(a, upper), y.share(a, upper)); break;
            default:
                int many = below(20) == 0 ? figure(5) : 1 + below(4);
                long row = randomRow(many);
                same("judge(" + many + ", " + row + ")", x.judge(many, row), y.judge(many, row));
        }
    }

    private long randomRow(int many) {
        if (below(30) == 0) {
            return random.nextLong();
        }
        long row = 0;
        for (int i = 0; i < many && i < 6; i++) {
            int kind = below(6);
            int doing = kind * 100;
            if (kind == 3) {
                doing += 10 * below(5) + below(2);
            } else if (kind > 0) {
                doing += below(5);
            }
            row = row * 1000 + (below(25) == 0 ? below(1000) : doing);
        }
        return below(40) == 0 ? row * 1000 : row;
    }

    private void callFelt() {
        int s = figure(5);
        int t = figure(9);
        int rain = figure(1);
        switch (below(6)) {
            case 0: same("unfeel()", x.unfeel(), y.unfeel()); break;
            case 1: case 2: same("may(" + rain + ")", x.may(rain), y.may(rain)); break;
            default: same("feel(" + s + ", " + t + ", " + rain + ")", x.feel(s, t, rain), y.feel(s, t, rain));
        }
    }

    private void callChancesAndSlots() {
        int a = figure(4);
        int b = figure(4);
        int what = figure(1);
        int tenths = figure(10);
        boolean upper = coin();
        switch (below(8)) {
            case 0: case 1:
                same("rests(" + a + ", " + b + ", " + what + ")", x.rests(a, b, what), y.rests(a, b, what));
                break;
            case 2: case 3:
                String call = "sudden(" + a + ", " + what + ", " + tenths + ", " + upper + ")";
                same(call, x.sudden(a, what, tenths, upper), y.sudden(a, what, tenths, upper));
                break;
            case 4:
                long v = coin() ? random.nextLong() : below(100);
                same("seed(" + v + ")", x.seed(v), y.seed(v));
                break;
            case 5:
                int m = figure(30);
                same("weeks(" + m + ")", x.weeks(m), y.weeks(m));
                break;
            case 6: same("keep(" + what + ")", x.keep(what), y.keep(what)); break;
            default: same("again(" + what + ")", x.again(what), y.again(what));
        }
    }
}
