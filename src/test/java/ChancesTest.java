import java.math.BigInteger;

/** Promises 25 to 28: rests, chances. */
public final class ChancesTest {
    private static final BigInteger TIMES = new BigInteger("6364136223846793005");
    private static final BigInteger AND = new BigInteger("1442695040888963407");
    private static final BigInteger TURN = BigInteger.ONE.shiftLeft(64);

    private ChancesTest() {
    }

    public static void main(String[] args) {
        restsOfTwo();
        restsWithOthers();
        restsRefused();
        suddenRain();
        suddenWithOpenOnes();
        suddenRefused();
        seedIsTold();
        weeksOfOne();
        weeksOfMore();
        weeksChangeTheSeedAlone();
        Check.end();
    }

    private static void restsIs(FirstUmbrella x, int one, int other, int many, int first) {
        Check.due("rests(" + one + ", " + other + ", 0)", x.rests(one, other, 0), many);
        Check.due("rests(" + one + ", " + other + ", 1)", x.rests(one, other, 1), first);
    }

    private static void restsOfTwo() {
        restsIs(Towns.of("UW00W10"), 0, 1, 1, 11);
        restsIs(Towns.of("UW00W00"), 0, 1, 2, 1);
        FirstUmbrella bishop = Towns.of("UW03W10");
        restsIs(bishop, 0, 1, 1, 10);
        restsIs(bishop, 1, 0, 1, 1);
        restsIs(Towns.of("UW03W13"), 0, 1, 2, 1);
        restsIs(Towns.of("UW53W33"), 0, 1, 1, 11);
    }

    private static void restsWithOthers() {
        FirstUmbrella x = Towns.of("UW00W00W00W00");
        x.open(2);
        restsIs(x, 0, 1, 1, 0);
        x.open(3);
        restsIs(x, 0, 1, 1, 0);
        FirstUmbrella y = Towns.of("UW20W10W33");
        y.open(2);
        restsIs(y, 0, 1, 1, 1);
        FirstUmbrella week = Towns.of("UW02W00W10");
        week.open(0);
        week.shut(0);
        restsIs(week, 1, 2, 1, 1);
        restsIs(week, 2, 1, 1, 10);
    }

    private static void restsRefused() {
        FirstUmbrella x = Towns.of("UW00W10W20");
        Check.due("rests(0, 3, 0)", x.rests(0, 3, 0), -1);
        Check.due("rests(3, 0, 0)", x.rests(3, 0, 0), -1);
        Check.due("rests(-1, 0, 0)", x.rests(-1, 0, 0), -1);
        Check.due("unknown is told ahead of bad", x.rests(3, 3, 2), -1);
        Check.due("rests(1, 1, 0)", x.rests(1, 1, 0), -2);
        Check.due("rests(0, 1, 2)", x.rests(0, 1, 2), -2);
        Check.due("rests(0, 1, -1)", x.rests(0, 1, -1), -2);
        x.open(1);
        Check.due("bad is told ahead of late", x.rests(1, 1, 0), -2);
        Check.due("bad is told ahead of late", x.rests(0, 1, 2), -2);
        Check.due("rests(0, 1, 0)", x.rests(0, 1, 0), -3);
        Check.due("rests(1, 0, 1)", x.rests(1, 0, 1), -3);
        restsIs(x, 0, 2, 1, 11);
    }

    private static void suddenIs(FirstUmbrella x, int street, int what, int tenths, int above, int below) {
        String call = "sudden(" + street + ", " + what + ", " + tenths + ")";
        Check.due(call + " above", x.sudden(street, what, tenths, true), above);
        Check.due(call + " below", x.sudden(street, what, tenths, false), below);
    }

    private static void suddenRain() {
        FirstUmbrella x = Towns.of("UW00W00W10");
        suddenIs(x, 0, 0, 3, 51, 100);
        suddenIs(x, 0, 1, 3, 9, 100);
        suddenIs(x, 1, 0, 3, 3, 10);
        suddenIs(x, 1, 1, 3, 0, 1);
        suddenIs(x, 2, 0, 3, 0, 1);
        suddenIs(x, 0, 0, 0, 0, 1);
        suddenIs(x, 0, 0, 10, 1, 1);
        suddenIs(x, 0, 1, 10, 1, 1);
        FirstUmbrella three = Towns.of("UW00W00W00");
        suddenIs(three, 0, 0, 5, 7, 8);
        suddenIs(three, 0, 1, 5, 1, 2);
        FirstUmbrella bishop = Towns.of("UW03");
        suddenIs(bishop, 1, 0, 2, 1, 5);
        suddenIs(bishop, 1, 1, 2, 0, 1);
        suddenIs(bishop, 2, 0, 2, 0, 1);
        suddenIs(Towns.of("UW50W50W50W50W50"), 5, 0, 1, 40951, 100000);
        suddenIs(Towns.of("UW50W50W50W50W50"), 5, 1, 1, 4073, 50000);
    }

    private static void suddenWithOpenOnes() {
        FirstUmbrella x = Towns.of("UW00W00W12W21");
        x.open(0);
        suddenIs(x, 0, 0, 0, 1, 1);
        suddenIs(x, 0, 1, 3, 3, 10);
        x.open(2);
        x.shut(2);
        suddenIs(x, 1, 0, 0, 1, 1);
        suddenIs(x, 1, 1, 7, 0, 1);
        suddenIs(x, 2, 0, 4, 2, 5);
        Check.due("nothing is opened", x.about(3), 1);
    }

    private static void suddenRefused() {
        FirstUmbrella x = Towns.of("UW00");
        Check.due("sudden(6, 2, 11)", x.sudden(6, 2, 11, true), -1);
        Check.due("sudden(-1, 0, 0)", x.sudden(-1, 0, 0, true), -1);
        Check.due("sudden(0, 2, 0)", x.sudden(0, 2, 0, true), -2);
        Check.due("sudden(0, -1, 0)", x.sudden(0, -1, 0, false), -2);
        Check.due("sudden(0, 0, -1)", x.sudden(0, 0, -1, true), -2);
        Check.due("sudden(0, 0, 11)", x.sudden(0, 0, 11, false), -2);
    }

    private static void seedIsTold() {
        FirstUmbrella x = new FirstUmbrella();
        Check.due("seed(MAX)", x.seed(Long.MAX_VALUE), 0);
        Check.due("seed(MIN)", x.seed(Long.MIN_VALUE), Long.MAX_VALUE);
        Check.due("seed(0)", x.seed(0), Long.MIN_VALUE);
        Check.due("weeks(1) of nobody", x.weeks(1), 0);
        Check.due("the seed behind one", x.seed(9), 1442695040888963407L);
        x.weeks(30);
        x.weeks(1);
        Check.due("the seed behind 31", x.seed(0), 3965132133515300738L);
    }

    /** A seed by which the first of the weeks picks just this. */
    private static long seedFor(int pick) {
        BigInteger then = BigInteger.valueOf(pick).shiftLeft(33);
        return then.subtract(AND).multiply(TIMES.modInverse(TURN)).mod(TURN).longValue();
    }

    private static int pickBehind(long seed, int steps) {
        BigInteger x = BigInteger.valueOf(seed).mod(TURN);
        for (int i = 0; i < steps; i++) {
            x = x.multiply(TIMES).add(AND).mod(TURN);
        }
        return x.shiftRight(33).mod(BigInteger.valueOf(24)).intValue();
    }

    private static long seedForTwo(int first, int second) {
        for (long seed = 0; seed < 1000000; seed++) {
            if (pickBehind(seed, 1) == first && pickBehind(seed, 2) == second) {
                return seed;
            }
        }
        Check.due("no seed for " + first + ", " + second, 0, 1);
        return 0;
    }

    private static void weeksIs(FirstUmbrella x, long seed, int m, int due) {
        x.seed(seed);
        Check.due("weeks(" + m + ") by " + seed, x.weeks(m), due);
    }

    private static void weeksOfOne() {
        FirstUmbrella x = Towns.of("UW03W41W20");
        weeksIs(x, seedFor(0), 1, 2);
        weeksIs(x, seedFor(1), 1, 1);
        weeksIs(x, seedFor(3), 1, 0);
        weeksIs(x, seedFor(4), 1, 0);
        weeksIs(x, seedFor(5), 1, 0);
        weeksIs(x, seedFor(24), 1, 2);
        weeksIs(x, seedFor(2147483641), 1, 1);
        x.open(0);
        weeksIs(x, seedFor(0), 1, 2);
        weeksIs(x, seedFor(2), 1, 3);
        weeksIs(x, seedFor(5), 1, 0);
        weeksIs(x, seedFor(10), 1, 2);
        weeksIs(x, seedFor(14), 1, 2);
        x.open(1);
        weeksIs(x, seedFor(6), 1, 3);
        x.shut(0);
        x.shut(1);
        weeksIs(x, seedFor(9), 1, 1);
        weeksIs(x, seedFor(14), 1, 1);
        for (int pick = 15; pick < 24; pick++) {
            weeksIs(x, seedFor(pick), 1, 0);
        }
        FirstUmbrella five = Towns.of("UW00W10W20W30W43");
        weeksIs(five, seedFor(4), 1, 3);
        weeksIs(five, seedForTwo(14, 4), 2, 2);
        five.open(4);
        weeksIs(five, seedFor(9), 1, 0);
        weeksIs(five, seedFor(14), 1, 3);
    }

    private static void weeksOfMore() {
        FirstUmbrella x = Towns.of("UW03W51");
        weeksIs(x, seedForTwo(10, 0), 2, 3);
        weeksIs(x, seedForTwo(0, 10), 2, 4);
        weeksIs(x, seedForTwo(0, 5), 2, 2);
        weeksIs(x, seedForTwo(11, 1), 2, 1);
        weeksIs(x, seedForTwo(1, 6), 2, 2);
        x.open(1);
        weeksIs(x, seedForTwo(6, 17), 2, 1);
        Check.due("weeks(0)", x.weeks(0), -2);
        Check.due("weeks(-1)", x.weeks(-1), -2);
        Check.due("weeks(31)", x.weeks(31), -2);
        x.seed(4);
        x.weeks(31);
        Check.due("a refused one leaves the seed", x.seed(0), 4);
    }

    private static void weeksChangeTheSeedAlone() {
        FirstUmbrella x = Towns.of("UW02W11W23W33W40N015N105N123");
        x.open(1);
        x.hour();
        x.feel(1, 1, 1);
        String ahead = Towns.picture(x);
        x.seed(12345);
        x.weeks(30);
        x.rests(0, 2, 0);
        x.sudden(0, 0, 5, true);
        Check.due("chances change nothing", Towns.picture(x), ahead);
        Check.due("nor the acts", x.undo(), 1);
        Check.due("nor what was ahead", x.about(2), 0);
    }
}
