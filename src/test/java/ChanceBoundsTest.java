import java.math.BigInteger;

/** The bounds of promises 22 to 30: six felt, first and last umbrellas, tenths 0 and 10, seeds at the ends, both slots. */
public final class ChanceBoundsTest {
    private static final int NONE = -9;
    private static final BigInteger TIMES = new BigInteger("6364136223846793005");
    private static final BigInteger AND = new BigInteger("1442695040888963407");
    private static final BigInteger TURN = BigInteger.ONE.shiftLeft(64);
    private static final long[] END_SEEDS = {0, 1, -1, Long.MAX_VALUE, Long.MIN_VALUE, Long.MAX_VALUE - 1, Long.MIN_VALUE + 1,
        Integer.MAX_VALUE, Integer.MIN_VALUE, 1L << 32, (1L << 33) - 1, 1L << 33, -1442695040888963407L};

    private ChanceBoundsTest() {
    }

    public static void main(String[] args) {
        promise22();
        promise22Refused();
        promise23();
        promise24EachFelt();
        promise24FirstAndLast();
        promise24OneUmbrellaForAll();
        promise25();
        promise25Always();
        promise25Refused();
        promise26Ends();
        promise26ManyAndNobody();
        promise26Refused();
        promise27();
        promise28EachPick();
        promise28WhatCanNotBe();
        promise28UpperBits();
        promise28EndSeeds();
        promise28LikeActs();
        promise28Refused();
        promise29();
        promise30();
        promise30Gone();
        promise30WhatStays();
        nothingIsChanged();
        Check.end();
    }

    private static void promise22() {
        for (int s = 0; s <= 5; s++) {
            for (int t = 0; t <= 9; t++) {
                for (int rain = 0; rain <= 1; rain++) {
                    FirstUmbrella x = new FirstUmbrella();
                    for (int n = 1; n <= 6; n++) {
                        Check.due(22, "how many there are", x.feel(s, t, rain), n);
                    }
                    Check.due(22, "FULL: 6", x.feel(s, t, rain), -4);
                    Check.due(22, "6 are there", x.about(9), 6);
                }
            }
        }
    }

    private static void promise22Refused() {
        FirstUmbrella x = new FirstUmbrella();
        for (int felt = 0; felt <= 6; felt++) {
            Check.due(22, "UNKNOWN: street", x.feel(6, 0, 0), -1);
            Check.due(22, "UNKNOWN: street", x.feel(-1, 9, 1), -1);
            Check.due(22, "BAD: t", x.feel(0, 10, 0), -2);
            Check.due(22, "BAD: t", x.feel(5, -1, 1), -2);
            Check.due(22, "BAD: rain", x.feel(0, 0, 2), -2);
            Check.due(22, "BAD: rain", x.feel(5, 9, -1), -2);
            Check.due(22, "UNKNOWN is told ahead of BAD", x.feel(6, 10, 2), -1);
            Check.due(22, "none of these is felt", x.about(9), felt);
            Check.due(22, "nor changes what may be", x.may(0), 144);
            Check.due(22, "what can be is felt, till there are 6", x.feel(2, 9, 0), felt < 6 ? felt + 1 : -4);
        }
    }

    private static void promise23() {
        FirstUmbrella x = new FirstUmbrella();
        for (int count = 0; count <= 6; count++) {
            for (int i = 0; i < count; i++) {
                x.feel(i, 7, 1);
            }
            Check.due(23, "nothing may be by these", x.may(0), count == 0 ? 144 : 0);
            Check.due(23, "how much there was", x.unfeel(), count);
            Check.due(23, "nothing is FELT", x.about(9), 0);
            Check.due(23, "all may be again", x.may(0) * 10 + x.may(1), 1441);
            Check.due(23, "unfeel() of nothing", x.unfeel(), 0);
        }
        for (int n = 1; n <= 6; n++) {
            Check.due(23, "there is room for six again", x.feel(0, 0, 1), n);
        }
        Check.due(23, "dry is not felt as wet", x.may(0), 30);
        x.unfeel();
        x.feel(0, 0, 0);
        Check.due(23, "what was felt at its place is gone", x.may(0), 144 - 30);
    }

    /** In how many of the 144 it rains in one street at t: plain and silk, a week, a bishop's of it and of each beside. */
    private static int raining(int street, int t) {
        int bishops = street == 0 || street == 5 ? 2 : 3;
        int open = Math.max(6 - t, 0);
        int silk = t == 0 ? 6 : Math.max(7 - t, 0);
        return open * (1 + bishops) + silk + (t <= 6 ? 6 : 0);
    }

    private static void promise24EachFelt() {
        for (int s = 0; s <= 5; s++) {
            for (int t = 0; t <= 9; t++) {
                FirstUmbrella rain = new FirstUmbrella();
                rain.feel(s, t, 1);
                int first = t <= 5 ? 10 * s + t + 1 : t == 6 ? 100 + 10 * s + 6 : NONE;
                Check.due(24, "rain in " + s + " at " + t, rain.may(0), raining(s, t));
                Check.due(24, "the first one by rain in " + s + " at " + t, rain.may(1), first);
                FirstUmbrella dry = new FirstUmbrella();
                dry.feel(s, t, 0);
                Check.due(24, "none in " + s + " at " + t, dry.may(0), 144 - raining(s, t));
                Check.due(24, "the first one by none in " + s + " at " + t, dry.may(1), s == 0 && t == 0 ? 11 : 1);
                dry.feel(s, t, 1);
                Check.due(24, "both: none", dry.may(0), 0);
                Check.due(24, "both: NONE", dry.may(1), NONE);
            }
        }
    }

    private static void may(String felt, int many, int first) {
        FirstUmbrella x = new FirstUmbrella();
        String[] each = felt.isEmpty() ? new String[0] : felt.split(" ");
        for (String one : each) {
            x.feel(one.charAt(0) - '0', one.charAt(1) - '0', one.charAt(2) - '0');
        }
        Check.due(24, "how many by " + felt, x.may(0), many);
        Check.due(24, "the first one by " + felt, x.may(1), first);
    }

    private static void promise24FirstAndLast() {
        may("", 144, 1);
        may("001 010 100", 1, 1);
        may("451 551 300", 1, 356);
        may("551 451 300 560 460 201", 0, NONE);
        may("001 101", 12, 301);
        may("001 101 200", 6, 301);
        may("501 401 300", 6, 351);
        may("251 260", 1 + 1 + 3, 26);
        may("251 260 100", 1 + 1 + 1, 26);
        may("261", 7, 126);
        may("261 270", 7, 126);
        may("261 271", 0, NONE);
        may("210 201", 1 + 3, 21);
        may("211 220 101 111", 1 + 1, 312);
        may("290 090 190 390 490 590", 144, 1);
        may("001 011 021 031 041 051", 1 + 2 + 6 + 2, 6);
        may("001 011 021 031 041 061", 7, 106);
        may("201 201 201 201 201 200", 0, NONE);
        FirstUmbrella x = new FirstUmbrella();
        Check.due(24, "BAD", x.may(-1), -2);
        Check.due(24, "BAD", x.may(2), -2);
    }

    /** What a real one of each kind brings is felt: it may be, and the first one that may be is not behind it. */
    private static void promise24OneUmbrellaForAll() {
        for (int code = 1; code <= 356; code++) {
            int stuff = code / 100;
            int home = code / 10 % 10;
            int end = code % 10;
            if (home <= 5 && end >= 1 && end <= 6) {
                FirstUmbrella x = Towns.of("UW" + home + stuff);
                x.open(0);
                for (int t = 0; t <= 9; t++) {
                    if (t == end) {
                        x.shut(0);
                    }
                    int rain = x.hour();
                    if (t == 0 || t >= end - 1 && t <= end + 1 || t == 6) {
                        x.feel(home, t, rain >> home & 1);
                    } else if (t == 9) {
                        x.feel(home == 5 ? 4 : home + 1, t, 0);
                    }
                }
                Check.due(24, "it may be " + code, x.may(0) >= 1 && x.may(1) <= code && x.may(1) > 0 ? 1 : 0, 1);
            }
        }
    }

    private static void rests(FirstUmbrella x, int one, int other, int many, int first) {
        Check.due(25, "how many of " + one + ", " + other, x.rests(one, other, 0), many);
        Check.due(25, "the first one of " + one + ", " + other, x.rests(one, other, 1), first);
    }

    private static void promise25() {
        FirstUmbrella ends = Towns.of("UW00W20W20W30W50");
        rests(ends, 0, 4, 1, 11);
        rests(ends, 4, 0, 1, 11);
        rests(ends, 1, 2, 2, 1);
        rests(ends, 3, 4, 1, 11);
        FirstUmbrella bishops = Towns.of("UW03W10W53W40W33");
        rests(bishops, 0, 1, 1, 10);
        rests(bishops, 1, 0, 1, 1);
        rests(bishops, 2, 3, 1, 10);
        rests(bishops, 3, 2, 1, 1);
        rests(bishops, 2, 4, 1, 11);
        rests(Towns.of("UW03W13"), 0, 1, 2, 1);
        rests(Towns.of("UW53W43"), 0, 1, 2, 1);
        FirstUmbrella hail = Towns.of("UW50W50W50W50W00");
        hail.open(1);
        rests(hail, 0, 2, 1, 0);
        hail.open(3);
        rests(hail, 0, 2, 1, 0);
        rests(hail, 4, 2, 1, 10);
        rests(hail, 2, 4, 1, 1);
        FirstUmbrella lasting = Towns.of("UW01W00W51W50");
        lasting.open(0);
        lasting.shut(0);
        rests(lasting, 0, 1, 1, 0);
        rests(lasting, 2, 3, 2, 1);
        lasting.hour();
        rests(lasting, 0, 1, 2, 1);
    }

    private static void promise25Always() {
        for (int town = 0; town < 24 * 24 * 24; town++) {
            int third = town / 576;
            FirstUmbrella x = Towns.of("U" + walker(town % 24) + walker(town / 24 % 24) + walker(third));
            int shut = x.rests(0, 1, 0);
            int first = x.rests(0, 1, 1);
            x.open(2);
            int open = x.rests(0, 1, 0);
            int firstOfOpen = x.rests(0, 1, 1);
            boolean fine = shut >= 1 && shut <= 2 && open >= 1 && open <= 2 && first >= 0 && firstOfOpen >= 0;
            Check.due(25, "one or two pairs, and a first one, in town " + town, fine ? 1 : 0, 1);
        }
    }

    private static String walker(int figure) {
        return "W" + figure / 4 + figure % 4;
    }

    private static void promise25Refused() {
        FirstUmbrella x = Towns.of("UW00W10W20W30W40");
        Check.due(25, "UNKNOWN: the one", x.rests(5, 0, 0), -1);
        Check.due(25, "UNKNOWN: the other", x.rests(4, 5, 0), -1);
        Check.due(25, "UNKNOWN: the one", x.rests(-1, 0, 1), -1);
        Check.due(25, "UNKNOWN: the other", x.rests(0, -1, 1), -1);
        Check.due(25, "UNKNOWN is told ahead of both are one", x.rests(5, 5, 0), -1);
        Check.due(25, "UNKNOWN is told ahead of BAD: what", x.rests(0, 5, 2), -1);
        Check.due(25, "BAD: both are one", x.rests(0, 0, 0), -2);
        Check.due(25, "BAD: both are one", x.rests(4, 4, 1), -2);
        Check.due(25, "BAD: what", x.rests(0, 4, -1), -2);
        Check.due(25, "BAD: what", x.rests(4, 0, 2), -2);
        x.open(4);
        Check.due(25, "UNKNOWN is told ahead of LATE", x.rests(4, 5, 0), -1);
        Check.due(25, "BAD is told ahead of LATE", x.rests(4, 4, 0), -2);
        Check.due(25, "BAD is told ahead of LATE", x.rests(4, 0, 2), -2);
        Check.due(25, "LATE: the one is open", x.rests(4, 0, 0), -3);
        Check.due(25, "LATE: the other is open", x.rests(0, 4, 1), -3);
        x.open(0);
        Check.due(25, "LATE: both are open", x.rests(0, 4, 0), -3);
        rests(x, 1, 3, 1, 11);
    }

    private static void sudden(FirstUmbrella x, int street, int what, int tenths, int above, int below) {
        String call = "sudden(" + street + ", " + what + ", " + tenths + ")";
        Check.due(26, call + " above", x.sudden(street, what, tenths, true), above);
        Check.due(26, call + " below", x.sudden(street, what, tenths, false), below);
    }

    private static void promise26Ends() {
        int[] below = {1, 10, 5, 10, 5, 2, 5, 10, 5, 10, 1};
        int[] above = {0, 1, 1, 3, 2, 1, 3, 7, 4, 9, 1};
        for (int s = 0; s <= 5; s++) {
            FirstUmbrella one = Towns.of("UW" + s + "0");
            FirstUmbrella beside = Towns.of("UW" + (s == 0 ? 1 : s - 1) + "3");
            for (int x = 0; x <= 10; x++) {
                sudden(one, s, 0, x, above[x], below[x]);
                sudden(one, s, 1, x, 0, 1);
                sudden(beside, s, 0, x, above[x], below[x]);
                sudden(beside, s, 1, x, 0, 1);
            }
            FirstUmbrella two = Towns.of("UW" + s + "0W" + s + "2");
            sudden(two, s, 0, 0, 0, 1);
            sudden(two, s, 0, 1, 19, 100);
            sudden(two, s, 1, 1, 1, 100);
            sudden(two, s, 0, 9, 99, 100);
            sudden(two, s, 1, 9, 81, 100);
            sudden(two, s, 1, 10, 1, 1);
        }
    }

    private static void promise26ManyAndNobody() {
        FirstUmbrella five = Towns.of("UW50W51W52W53W50");
        sudden(five, 5, 0, 0, 0, 1);
        sudden(five, 5, 0, 10, 1, 1);
        sudden(five, 5, 1, 0, 0, 1);
        sudden(five, 5, 1, 10, 1, 1);
        sudden(five, 5, 0, 9, 99999, 100000);
        sudden(five, 5, 1, 9, 49977, 50000);
        sudden(five, 5, 0, 5, 31, 32);
        sudden(five, 5, 1, 5, 13, 16);
        sudden(five, 4, 0, 5, 1, 2);
        sudden(five, 3, 0, 5, 0, 1);
        for (int i = 0; i < 5; i++) {
            five.open(i);
        }
        sudden(five, 5, 0, 0, 1, 1);
        sudden(five, 5, 1, 3, 1, 1);
        sudden(five, 4, 0, 3, 1, 1);
        sudden(five, 4, 1, 3, 0, 1);
        sudden(five, 0, 0, 3, 0, 1);
        FirstUmbrella nobody = Towns.of("U");
        sudden(nobody, 0, 0, 10, 0, 1);
        sudden(nobody, 5, 1, 10, 0, 1);
        FirstUmbrella lasting = Towns.of("UW02");
        lasting.open(0);
        lasting.shut(0);
        sudden(lasting, 0, 0, 0, 1, 1);
        sudden(lasting, 0, 0, 10, 1, 1);
        sudden(lasting, 0, 1, 10, 0, 1);
    }

    private static void promise26Refused() {
        FirstUmbrella x = Towns.of("UW00W00");
        Check.due(26, "UNKNOWN", x.sudden(6, 0, 0, true), -1);
        Check.due(26, "UNKNOWN", x.sudden(-1, 1, 10, false), -1);
        Check.due(26, "UNKNOWN is told ahead of BAD", x.sudden(6, 2, 11, false), -1);
        Check.due(26, "BAD: what", x.sudden(0, 2, 0, true), -2);
        Check.due(26, "BAD: what", x.sudden(5, -1, 10, false), -2);
        Check.due(26, "BAD: x", x.sudden(0, 0, 11, true), -2);
        Check.due(26, "BAD: x", x.sudden(5, 1, -1, false), -2);
    }

    private static BigInteger next(BigInteger x) {
        return x.multiply(TIMES).add(AND).mod(TURN);
    }

    private static BigInteger of(long seed) {
        return BigInteger.valueOf(seed).mod(TURN);
    }

    private static void promise27() {
        FirstUmbrella x = new FirstUmbrella();
        long was = 0;
        for (long v : END_SEEDS) {
            Check.due(27, "what it was ahead of " + v, x.seed(v), was);
            Check.due(27, "THE SEED is " + v, x.seed(v), v);
            was = v;
        }
    }

    /** A seed by which the first pick's upper 31 bits, and the 33 below them, are these. */
    private static long seedFor(long upper, long lower) {
        BigInteger then = BigInteger.valueOf(upper).shiftLeft(33).add(BigInteger.valueOf(lower));
        return then.subtract(AND).multiply(TIMES.modInverse(TURN)).mod(TURN).longValue();
    }

    private static void weeks(FirstUmbrella x, long upper, int due) {
        x.seed(seedFor(upper, 0));
        Check.due(28, "rain behind " + upper, x.weeks(1), due);
        x.seed(seedFor(upper, (1L << 33) - 1));
        Check.due(28, "the lower 33 bits are set aside", x.weeks(1), due);
    }

    private static void promise28EachPick() {
        FirstUmbrella shut = Towns.of("UW03W10W23W30W53");
        int[] dueOfShut = {2, 1, 3, 1, 2};
        for (int pick = 0; pick < 24; pick++) {
            weeks(shut, pick, pick < 5 ? dueOfShut[pick] : 0);
        }
        FirstUmbrella open = Towns.of("UW00W10W20W30W40");
        for (int i = 0; i < 5; i++) {
            open.open(i);
        }
        for (int pick = 0; pick < 24; pick++) {
            weeks(open, pick, pick >= 5 && pick < 10 ? 4 : 5);
        }
        FirstUmbrella lasting = Towns.of("UW01W11W21W31W41");
        for (int i = 0; i < 5; i++) {
            lasting.open(i);
            lasting.shut(i);
        }
        for (int pick = 0; pick < 24; pick++) {
            weeks(lasting, pick, pick >= 15 ? 0 : 5);
        }
    }

    /** Two picks, the second one opening who may have walked up by the first. */
    private static void walked(FirstUmbrella x, int walker, int due) {
        for (long seed = 0; seed < 1000000; seed++) {
            BigInteger first = next(of(seed));
            int one = first.shiftRight(33).mod(BigInteger.valueOf(24)).intValue();
            int two = next(first).shiftRight(33).mod(BigInteger.valueOf(24)).intValue();
            if (one == 10 + walker && two == walker) {
                x.seed(seed);
                Check.due(28, "walked up, then opened: " + walker, x.weeks(2), due);
                return;
            }
        }
        Check.due(28, "no such seed", 0, 1);
    }

    private static void promise28WhatCanNotBe() {
        FirstUmbrella x = Towns.of("UW33W43W53W43W03");
        walked(x, 0, 3);
        walked(x, 1, 2);
        walked(x, 2, 2);
        walked(x, 3, 2);
        walked(x, 4, 3);
        FirstUmbrella two = Towns.of("UW00W50");
        for (int pick = 0; pick < 15; pick++) {
            weeks(two, pick, pick < 2 ? 1 : 0);
        }
        two.open(1);
        for (int pick = 0; pick < 15; pick++) {
            weeks(two, pick, pick == 0 ? 2 : pick == 6 ? 0 : 1);
        }
    }

    private static void promise28UpperBits() {
        FirstUmbrella x = Towns.of("UW00W10W20W33W40");
        x.open(2);
        weeks(x, 0, 2);
        weeks(x, 24, 2);
        weeks(x, 1L << 30, 1);
        weeks(x, (1L << 30) + 8, 2);
        weeks(x, (1L << 30) + 11, 3);
        weeks(x, (1L << 31) - 1, 0);
        weeks(x, (1L << 31) - 5, 4 - 1);
        weeks(x, (1L << 31) - 8, 2);
        weeks(x, (1L << 31) - 9, 1);
    }

    private static void promise28EndSeeds() {
        for (long v : END_SEEDS) {
            FirstUmbrella x = new FirstUmbrella();
            BigInteger due = of(v);
            x.seed(v);
            for (int m = 1; m <= 30; m++) {
                Check.due(28, "nobody: no rain", x.weeks(m), 0);
                for (int i = 0; i < m; i++) {
                    due = next(due);
                }
                Check.due(28, "THE SEED behind " + m + ", wrapping", x.seed(due.longValue()), due.longValue());
            }
        }
    }

    /** The same done by acts, each picked here. */
    private static void promise28LikeActs() {
        for (int m = 1; m <= 30; m++) {
            for (long v : END_SEEDS) {
                FirstUmbrella x = Towns.of("UW02W11W23W33W40");
                FirstUmbrella acts = Towns.of("UW02W11W23W33W40");
                x.open(2);
                acts.open(2);
                x.seed(v);
                BigInteger seed = of(v);
                int due = 0;
                for (int i = 0; i < m; i++) {
                    seed = next(seed);
                    act(acts, seed.shiftRight(33).mod(BigInteger.valueOf(24)).intValue());
                    due += Integer.bitCount(acts.about(4));
                }
                Check.due(28, "weeks(" + m + ") by " + v, x.weeks(m), due);
            }
        }
    }

    private static void act(FirstUmbrella x, int pick) {
        if (pick < 5) {
            x.open(pick);
        } else if (pick < 10) {
            x.shut(pick - 5);
        } else if (pick < 15) {
            x.walk(pick - 10, true);
        } else {
            x.hour();
        }
    }

    private static void promise28Refused() {
        FirstUmbrella x = Towns.of("UW00");
        x.seed(Long.MIN_VALUE);
        for (int m : new int[] {0, 31, -1, 32, Integer.MIN_VALUE, Integer.MAX_VALUE}) {
            Check.due(28, "BAD: " + m, x.weeks(m), -2);
            Check.due(28, "THE SEED stays", x.seed(Long.MIN_VALUE), Long.MIN_VALUE);
        }
    }

    private static void promise29() {
        for (int slot = 0; slot <= 1; slot++) {
            FirstUmbrella x = Towns.of("UW02W30N005");
            for (int hour = 0; hour <= 20; hour++) {
                Check.due(29, "THE HOUR", x.keep(slot), hour);
                x.hour();
            }
            Check.due(29, "the last one is kept", x.again(slot), 20);
            Check.due(29, "the other slot is empty", x.again(1 - slot), -3);
            Check.due(29, "UNKNOWN", x.keep(2), -1);
            Check.due(29, "UNKNOWN", x.keep(-1), -1);
        }
        FirstUmbrella x = Towns.of("UW00");
        x.hour();
        x.keep(0);
        Check.due(29, "it is no act, and leaves them", x.about(8), 1);
        Check.due(29, "they can be undone behind it", x.undo(), 0);
        Check.due(29, "what is kept stays", x.again(0), 1);
    }

    private static FirstUmbrella rained() {
        FirstUmbrella x = Towns.of("UW02W11W23W00W50N005N119N120N305N500");
        x.open(0);
        x.hour();
        x.walk(4, false);
        x.open(1);
        x.open(3);
        x.hour();
        x.shut(1);
        return x;
    }

    private static void promise30() {
        for (int slot = 0; slot <= 1; slot++) {
            FirstUmbrella due = rained();
            due.keep(slot);
            due.again(slot);
            FirstUmbrella x = rained();
            x.keep(slot);
            for (int i = 0; i < 5; i++) {
                x.open(i);
                x.shut(i);
                x.walk(i, true);
            }
            Towns.hours(x, 20);
            for (int times = 0; times < 3; times++) {
                Check.due(30, "THE HOUR", x.again(slot), 2);
                Check.due(30, "no ACTS when one goes on", x.about(8), 0);
                Check.due(30, "LATE to undo", x.undo(), -3);
                x.hour();
                Check.due(30, "ACTS from there on", x.about(8), 1);
            }
            x.again(slot);
            Check.due(30, "they are as they were kept", Towns.whole(x), Towns.whole(due));
        }
        FirstUmbrella both = Towns.of("UW00");
        both.keep(0);
        both.open(0);
        both.hour();
        both.keep(1);
        both.again(0);
        Check.due(30, "slot 0", both.about(2) + both.about(3) + both.street(0, 0), 0);
        both.again(1);
        Check.due(30, "slot 1", both.about(2) + both.about(3) + both.street(0, 0), 3);
    }

    private static void promise30Gone() {
        FirstUmbrella x = Towns.of("UW00");
        x.hour();
        Check.due(30, "LATE: none were kept", x.again(0), -3);
        Check.due(30, "LATE: none were kept", x.again(1), -3);
        Check.due(30, "UNKNOWN", x.again(2), -1);
        Check.due(30, "UNKNOWN", x.again(-1), -1);
        Check.due(30, "these change nothing", x.about(2) * 10 + x.about(8), 11);
        x.keep(0);
        x.keep(1);
        x.write('U');
        x.town();
        Check.due(30, "kept still: there was no town", x.again(0) + x.again(1), 2);
        x.wipe();
        x.write('U');
        x.town();
        Check.due(30, "LATE: gone by a new town", x.again(0), -3);
        Check.due(30, "LATE: gone by a new town", x.again(1), -3);
        x.keep(1);
        Check.due(30, "kept anew, of the new town", x.again(1), 0);
        Check.due(30, "and that alone", x.again(0), -3);
    }

    private static void promise30WhatStays() {
        FirstUmbrella x = Towns.of("UW00");
        x.keep(1);
        x.feel(0, 0, 1);
        x.seed(Long.MAX_VALUE);
        x.write('X');
        x.again(1);
        Check.due(30, "what is FELT stays", x.about(9), 1);
        Check.due(30, "THE TEXT stays", x.about(10), 5);
        Check.due(30, "THE SEED stays", x.seed(0), Long.MAX_VALUE);
    }

    private static void nothingIsChanged() {
        for (int call = 0; call < 5; call++) {
            FirstUmbrella x = felt();
            switch (call) {
                case 0: x.may(1); break;
                case 1: x.rests(0, 3, 1); break;
                case 2: x.sudden(0, 1, 7, true); break;
                case 3: x.keep(0); break;
                default:
                    x.weeks(30);
                    x.seed(-3);
            }
            FirstUmbrella due = felt();
            if (call == 3) {
                due.keep(0);
            }
            Check.due("Promises 24 to 29: call " + call + " changes nothing", Towns.whole(x), Towns.whole(due));
        }
    }

    private static FirstUmbrella felt() {
        FirstUmbrella x = rained();
        x.keep(1);
        x.hour();
        x.shut(0);
        x.shut(3);
        x.feel(2, 5, 1);
        x.seed(-3);
        return x;
    }
}
