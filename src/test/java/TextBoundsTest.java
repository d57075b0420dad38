/** The bounds of promises 1 to 9: nothing there, the text byte by byte, the town full and empty, what is told of it. */
public final class TextBoundsTest {
    private static final int NONE = -9;
    private static final String FIVE_WALKERS = "W00W11W22W33W50";
    private static final String FIVE_NEEDS = "N000N009N011N019N529";
    private static final String FULL_TOWN = "U" + FIVE_WALKERS + FIVE_NEEDS;

    private TextBoundsTest() {
    }

    public static void main(String[] args) {
        promise1NothingAsked();
        promise1NothingAhead();
        promise1NobodyActs();
        promise2();
        promise3();
        promise4EachByte();
        promise4BesideFullKinds();
        promise4EachLength();
        promise4WhateverComesBehind();
        promise5();
        promise5WhatGoes();
        promise5WhatStays();
        promise6People();
        promise6Streets();
        promise6Needs();
        promise6Rows();
        promise7();
        promise8();
        promise9();
        Check.end();
    }

    private static void promise1NothingAsked() {
        FirstUmbrella x = new FirstUmbrella();
        for (int what = 0; what <= 10; what++) {
            Check.due(1, "about(" + what + ") of nothing", x.about(what), 0);
        }
        for (int s = 0; s <= 5; s++) {
            for (int what = 0; what <= 2; what++) {
                Check.due(1, "street(" + s + ", " + what + ") of nothing", x.street(s, what), 0);
            }
        }
        Check.due(1, "nobody", x.walker(0, 0), -1);
        Check.due(1, "no need", x.need(0, 0), -1);
        Check.due(1, "nothing to wipe", x.wipe(), 0);
        Check.due(1, "nothing to unfeel", x.unfeel(), 0);
        Check.due(1, "an empty text is at fault at its end", x.fault(), 0);
        Check.due(1, "it is no town", x.town(), -3);
        Check.due(1, "the seed is 0 at first", x.seed(5), 0);
    }

    private static void promise1NothingAhead() {
        FirstUmbrella x = new FirstUmbrella();
        for (int s = 0; s <= 5; s++) {
            Check.due(1, "never wet", x.wet(s, 20), 0);
            Check.due(1, "dry now", x.dry(s), 0);
            Check.due(1, "no rain by chance, above", x.sudden(s, 0, 10, true), 0);
            Check.due(1, "no rain by chance, below", x.sudden(s, 0, 10, false), 1);
            Check.due(1, "no hail by chance, below", x.sudden(s, 1, 10, false), 1);
        }
        Check.due(1, "no needs kept", x.needs(20, 0), 0);
        Check.due(1, "no needs broken", x.needs(20, 1), 0);
        Check.due(1, "nobody asked", x.asked(0), 0);
        Check.due(1, "nothing kept", x.asked(1), 0);
        Check.due(1, "any umbrella may be", x.may(0), 144);
        Check.due(1, "four hours can be", x.judge(4, 0L), NONE);
        Check.due(1, "nobody can open", x.judge(1, 100L), 0);
        Check.due(1, "no rain is so", x.judge(1, 400L), 0);
        Check.due(1, "no need is kept", x.judge(1, 500L), 0);
        Check.due(1, "weeks without rain", x.weeks(30), 0);
    }

    private static void promise1NobodyActs() {
        FirstUmbrella x = new FirstUmbrella();
        Check.due(1, "open(0)", x.open(0), -1);
        Check.due(1, "shut(0)", x.shut(0), -1);
        Check.due(1, "walk(0, true)", x.walk(0, true), -1);
        Check.due(1, "sent(0, 0)", x.sent(0, 0), -1);
        Check.due(1, "share(0, true)", x.share(0, true), -1);
        Check.due(1, "rests(0, 1, 0)", x.rests(0, 1, 0), -1);
        Check.due(1, "undo()", x.undo(), -3);
        Check.due(1, "again(0)", x.again(0), -3);
        Check.due(1, "again(1)", x.again(1), -3);
        Check.due(1, "an hour without rain", x.hour(), 0);
        Check.due(1, "it is an act", x.undo(), 0);
        Check.due(1, "keep(0)", x.keep(0), 0);
        Check.due(1, "again(0) of nothing", x.again(0), 0);
    }

    private static void promise2() {
        for (int letter = 0; letter <= 255; letter++) {
            FirstUmbrella x = new FirstUmbrella();
            Check.due(2, "write(" + letter + ")", x.write(letter), 1);
            Check.due(2, "the byte " + letter + " stands there", x.fault(), letter == 'U' ? NONE : 0);
        }
        FirstUmbrella x = new FirstUmbrella();
        int[] bad = {-1, 256, 'U' + 256, 'U' - 256, Integer.MIN_VALUE, Integer.MAX_VALUE, Integer.MIN_VALUE + 'U'};
        for (int letter : bad) {
            Check.due(2, "write(" + letter + ")", x.write(letter), -2);
            Check.due(2, "a bad byte is not there", x.about(10), 0);
        }
        for (int length = 1; length <= 48; length++) {
            Check.due(2, "the byte of number " + length, x.write(length == 1 ? 'U' : 255), length);
        }
        for (int i = 0; i < 3; i++) {
            Check.due(2, "the 49th byte", x.write('U'), -4);
            Check.due(2, "BAD is told ahead of FULL", x.write(256), -2);
            Check.due(2, "BAD is told ahead of FULL", x.write(-1), -2);
            Check.due(2, "48 are there still", x.about(10), 48);
        }
        Check.due(2, "the first one is still there", x.fault(), 1);
    }

    private static void promise3() {
        FirstUmbrella x = new FirstUmbrella();
        for (int length = 0; length <= 48; length++) {
            Towns.write(x, "U".repeat(length));
            Check.due(3, "wipe() of " + length, x.wipe(), length);
            Check.due(3, "the text is empty", x.about(10), 0);
            Check.due(3, "an empty text has its fault at its end", x.fault(), 0);
            Check.due(3, "wipe() of nothing", x.wipe(), 0);
        }
        FirstUmbrella full = Towns.written("U".repeat(48));
        full.wipe();
        for (int length = 1; length <= 48; length++) {
            Check.due(3, "there is room for 48 again", full.write('W'), length);
        }
        Check.due(3, "and for no more", full.write('W'), -4);
        FirstUmbrella town = Towns.of(FULL_TOWN);
        town.open(0);
        town.hour();
        town.wipe();
        Check.due(3, "the town is not wiped", town.about(0) * 10 + town.about(1), 55);
        Check.due(3, "nor the acts", town.about(8), 2);
    }

    /** Behind this, each of the 256 bytes: those that fit, and the fault when one of them came. */
    private static void eachByte(String ahead, String fitting, int thenDue) {
        for (char b = 0; b < 256; b++) {
            boolean fits = fitting.indexOf(b) >= 0;
            int got = Towns.written(ahead + b).fault();
            Check.due(4, "fault() of " + ahead + " and the byte " + (int) b, got, fits ? thenDue : ahead.length());
        }
    }

    private static void promise4EachByte() {
        eachByte("", "U", NONE);
        eachByte("U", "WN", 2);
        eachByte("UW", "012345", 3);
        eachByte("UW0", "0123", NONE);
        eachByte("UW5", "0123", NONE);
        eachByte("UN", "012345", 3);
        eachByte("UN0", "012", 4);
        eachByte("UN5", "012", 4);
        eachByte("UN00", "0123456789", NONE);
        eachByte("UN51", "123456789", NONE);
        eachByte("UN02", "0123456789", NONE);
        eachByte("UW00", "WN", 5);
        eachByte("UN000", "WN", 6);
    }

    private static void promise4BesideFullKinds() {
        eachByte("U" + FIVE_WALKERS, "N", 17);
        eachByte("U" + FIVE_NEEDS, "W", 22);
        eachByte("U" + FIVE_WALKERS.substring(3), "WN", 14);
        eachByte("U" + FIVE_NEEDS.substring(4), "WN", 18);
        eachByte(FULL_TOWN, "", 37);
        eachByte("U" + FIVE_NEEDS + FIVE_WALKERS, "", 37);
        eachByte("UW00N000W00N000W00N000W00N000W00", "N", 33);
        eachByte("UN000W00N000W00N000W00N000W00N000", "W", 34);
    }

    private static void promise4EachLength() {
        String[] towns = {"UW53N529N011W00N000", FULL_TOWN, "U" + FIVE_NEEDS + FIVE_WALKERS};
        for (String town : towns) {
            FirstUmbrella x = new FirstUmbrella();
            int end = 1;
            for (int length = 1; length <= town.length(); length++) {
                x.write(town.charAt(length - 1));
                if (length == end + 1) {
                    end += town.charAt(end) == 'W' ? 3 : 4;
                }
                boolean ends = length == 1 || length == end;
                Check.due(4, "fault() of the first " + length + " of " + town, x.fault(), ends ? NONE : length);
            }
        }
    }

    private static void promise4WhateverComesBehind() {
        String[] texts = {"V", "UU", "UW6", "UW04", "UW00X", "UN6", "UN03", "UN00:", "UN010", "UN02/", "UW00W00W00W00W00W",
            "UN000N000N000N000N000N", FULL_TOWN + "W", FULL_TOWN + "N"};
        for (String text : texts) {
            for (char behind : new char[] {0, '0', '1', 'U', 'W', 'N', 255}) {
                FirstUmbrella x = Towns.written(text);
                int place = text.length() - 1;
                Check.due(4, "fault() of " + text, x.fault(), place);
                for (int length = text.length() + 1; length <= 48; length++) {
                    x.write(behind);
                    Check.due(4, "fault() of " + text + " and more behind it", x.fault(), place);
                }
            }
        }
        FirstUmbrella full = Towns.written("UW00" + "W00".repeat(14) + "W0");
        Check.due(4, "a text of 48: its length is set aside", full.about(10) * 100 + full.fault(), 4816);
        Check.due(4, "asked once more", full.fault(), 16);
    }

    private static void promise5() {
        Check.due(5, "nobody, nothing", Towns.written("U").town(), 0);
        Check.due(5, "one walker", Towns.written("UW00").town(), 10);
        Check.due(5, "one need", Towns.written("UN529").town(), 1);
        Check.due(5, "five walkers", Towns.written("U" + FIVE_WALKERS).town(), 50);
        Check.due(5, "five needs", Towns.written("U" + FIVE_NEEDS).town(), 5);
        Check.due(5, "five and five", Towns.written(FULL_TOWN).town(), 55);
        String[] faulty = {"", "V", "UW", "UW5", "UW54", "UN", "UN5", "UN52", "UN530", "UN510", "UW00W", "UW00 ",
            "U" + FIVE_WALKERS + "W00", "U" + FIVE_NEEDS + "N000", FULL_TOWN + "U", "U".repeat(48)};
        for (String text : faulty) {
            FirstUmbrella x = Towns.of("UW41N211");
            x.wipe();
            Towns.write(x, text);
            Check.due(5, "LATE: a fault in " + text, x.town(), -3);
            Check.due(5, "THE TOWN is as it was", x.walker(0, 0) * 10 + x.need(0, 0), 42);
            Check.due(5, "THE TEXT is as it was", x.about(10), text.length());
        }
        FirstUmbrella x = Towns.of("UN019W53N000W11");
        Check.due(5, "each kind is numbered for itself", x.walker(0, 0) * 10 + x.walker(0, 1), 53);
        Check.due(5, "the second walker", x.walker(1, 0) * 10 + x.walker(1, 1), 11);
        Check.due(5, "the first need", x.need(0, 0) * 100 + x.need(0, 1) * 10 + x.need(0, 2), 19);
        Check.due(5, "the second need", x.need(1, 0) * 100 + x.need(1, 1) * 10 + x.need(1, 2), 0);
    }

    /** A town of 14 acts, two slots, six felt, a seed. */
    private static FirstUmbrella used() {
        FirstUmbrella x = Towns.of(FULL_TOWN);
        for (int i = 0; i < 5; i++) {
            x.open(i);
        }
        Towns.hours(x, 8);
        x.shut(2);
        x.open(2);
        x.hour();
        x.keep(0);
        x.keep(1);
        for (int i = 0; i < 6; i++) {
            x.feel(i, 9, 0);
        }
        x.seed(Long.MIN_VALUE);
        return x;
    }

    private static void promise5WhatGoes() {
        FirstUmbrella x = used();
        Check.due(5, "rain lasts ahead of it", x.street(2, 1), 6);
        Check.due(5, "14 acts ahead of it", x.about(8), 14);
        Check.due(5, "made anew by the same text", x.town(), 55);
        Check.due(5, "all umbrellas are shut", x.about(3), 0);
        Check.due(5, "no rain, nothing lasts", x.about(4), 0);
        Check.due(5, "THE HOUR is 0", x.about(2), 0);
        Check.due(5, "all needs are open", x.about(6) + x.about(7), 0);
        Check.due(5, "no acts", x.about(8), 0);
        Check.due(5, "none can be undone", x.undo(), -3);
        Check.due(5, "slot 0 is gone", x.again(0), -3);
        Check.due(5, "slot 1 is gone", x.again(1), -3);
        for (int s = 0; s <= 5; s++) {
            Check.due(5, "no street was wet", x.street(s, 0) + x.street(s, 1) + x.street(s, 2), 0);
        }
        FirstUmbrella y = used();
        y.wipe();
        y.write('U');
        Check.due(5, "a town of nobody in its stead", y.town(), 0);
        Check.due(5, "nobody is left", y.walker(0, 0), -1);
        Check.due(5, "no need is left", y.need(0, 0), -1);
        Check.due(5, "no kept need is left", y.about(6) + y.about(7), 0);
        Check.due(5, "no umbrella is left", y.about(3) + y.about(4) + y.about(5), 0);
    }

    private static void promise5WhatStays() {
        FirstUmbrella x = used();
        x.town();
        Check.due(5, "THE TEXT itself stays", x.about(10), 36);
        Check.due(5, "it has no fault", x.fault(), NONE);
        Check.due(5, "FELT stays", x.about(9), 6);
        Check.due(5, "THE SEED stays", x.seed(0), Long.MIN_VALUE);
        Check.due(5, "a town may be made again and again", x.town(), 55);
        FirstUmbrella y = used();
        y.write('W');
        Check.due(5, "a refused one", y.town(), -3);
        Check.due(5, "leaves the slots", y.again(0) * 10 + y.again(1), 99);
        FirstUmbrella z = used();
        z.write('W');
        z.town();
        Check.due(5, "a refused one leaves the acts", z.undo(), 13);
    }

    private static void promise6People() {
        StringBuilder text = new StringBuilder("U");
        for (int count = 0; count <= 5; count++) {
            FirstUmbrella x = Towns.of(text.toString());
            Check.due(6, "about(0) of " + count, x.about(0), count);
            Check.due(6, "about(1) of " + count, x.about(1), count);
            Check.due(6, "about(10) of " + count, x.about(10), 1 + 7 * count);
            for (int i = 0; i < count; i++) {
                Check.due(6, "about(3) ahead of walker " + i, x.about(3), (1 << i) - 1);
                x.open(i);
            }
            Check.due(6, "about(3) of all", x.about(3), (1 << count) - 1);
            text.append("W00N019");
        }
        FirstUmbrella last = Towns.of("U" + FIVE_WALKERS);
        last.open(4);
        Check.due(6, "about(3) of the last one", last.about(3), 16);
    }

    private static void promise6Streets() {
        for (int s = 0; s <= 5; s++) {
            FirstUmbrella x = Towns.of("UW" + s + "0W" + s + "0W" + s + "0W" + s + "0W" + s + "0");
            Check.due(6, "no rain, no hail", x.about(4) + x.about(5), 0);
            for (int i = 0; i < 5; i++) {
                x.open(i);
                Check.due(6, "rain in street " + s, x.about(4), 1 << s);
                Check.due(6, "hail in it of two or more: " + (i + 1), x.about(5), i == 0 ? 0 : 1 << s);
            }
        }
        FirstUmbrella all = Towns.of("UW13W43W10W43");
        all.open(0);
        all.open(1);
        Check.due(6, "rain in all of them", all.about(4), 63);
        Check.due(6, "no hail of a bishop's next door", all.about(5), 0);
        all.open(2);
        all.open(3);
        Check.due(6, "hail in two", all.about(5), 2 + 16);
        FirstUmbrella ends = Towns.of("UW00W50W00W50");
        for (int i = 0; i < 4; i++) {
            ends.open(i);
        }
        Check.due(6, "rain at both ends", ends.about(4), 33);
        Check.due(6, "hail at both ends", ends.about(5), 33);
        FirstUmbrella lasting = Towns.of("UW02W00");
        lasting.open(0);
        lasting.shut(0);
        lasting.open(1);
        Check.due(6, "rain that lasts makes no hail of one", lasting.about(4) * 10 + lasting.about(5), 10);
    }

    private static void promise6Needs() {
        FirstUmbrella kept = Towns.of("UN000N120N220N300N500");
        Check.due(6, "none kept at first", kept.about(6), 0);
        kept.hour();
        Check.due(6, "all five kept", kept.about(6), 31);
        Check.due(6, "none broken", kept.about(7), 0);
        FirstUmbrella broken = Towns.of("UW03N000N120N020N109N000");
        broken.open(0);
        Check.due(6, "none broken at first", broken.about(7), 0);
        broken.hour();
        Check.due(6, "all five broken", broken.about(7), 31);
        Check.due(6, "none kept", broken.about(6), 0);
        FirstUmbrella last = Towns.of("UN009N009N009N009N000");
        last.hour();
        Check.due(6, "the last one alone", last.about(6), 16);
    }

    private static void promise6Rows() {
        FirstUmbrella x = new FirstUmbrella();
        for (int n = 1; n <= 20; n++) {
            x.hour();
            Check.due(6, "THE HOUR", x.about(2), n);
            Check.due(6, "14 ACTS at most", x.about(8), Math.min(n, 14));
        }
        for (int n = 1; n <= 6; n++) {
            x.feel(0, 0, 0);
            Check.due(6, "FELT", x.about(9), n);
        }
        x.feel(0, 0, 0);
        Check.due(6, "6 FELT at most", x.about(9), 6);
        for (int n = 1; n <= 50; n++) {
            x.write(0);
            Check.due(6, "48 bytes at most", x.about(10), Math.min(n, 48));
        }
        Towns.hours(x, 300);
        Check.due(6, "THE HOUR has no bound", x.about(2), 320);
        Check.due(6, "14 ACTS still", x.about(8), 14);
        Check.due(6, "about(-1)", x.about(-1), -2);
        Check.due(6, "about(11)", x.about(11), -2);
    }

    private static void promise7() {
        for (int s = 0; s <= 5; s++) {
            for (int k = 0; k <= 3; k++) {
                FirstUmbrella x = Towns.of("UW22W22W22W22W" + s + k);
                Check.due(7, "STREET of the last one", x.walker(4, 0), s);
                Check.due(7, "STUFF of the last one", x.walker(4, 1), k);
                Check.due(7, "it is shut", x.walker(4, 2), 0);
                x.open(4);
                Check.due(7, "it is open", x.walker(4, 2), 1);
                Check.due(7, "the first one is shut", x.walker(0, 2), 0);
            }
        }
        for (int count = 0; count <= 5; count++) {
            FirstUmbrella x = Towns.of("U" + "W53".repeat(count));
            for (int w = 0; w <= 5; w++) {
                Check.due(7, "walker " + w + " of " + count, x.walker(w, 0), w < count ? 5 : -1);
                Check.due(7, "UNKNOWN is told ahead of BAD", x.walker(w, 3), w < count ? -2 : -1);
            }
            Check.due(7, "walker(-1, 0) of " + count, x.walker(-1, 0), -1);
        }
    }

    private static void promise8() {
        for (int s = 0; s <= 5; s += 5) {
            for (int t = 0; t <= 2; t++) {
                for (int h = t == 1 ? 1 : 0; h <= 9; h++) {
                    FirstUmbrella x = Towns.of("UN019N019N019N019N" + s + t + h);
                    Check.due(8, "STREET of the last one", x.need(4, 0), s);
                    Check.due(8, "SORT of the last one", x.need(4, 1), t);
                    Check.due(8, "h of the last one", x.need(4, 2), h);
                    Check.due(8, "it is open", x.need(4, 3), 0);
                }
            }
        }
        for (int count = 0; count <= 5; count++) {
            FirstUmbrella x = Towns.of("U" + "N529".repeat(count));
            for (int n = 0; n <= 5; n++) {
                Check.due(8, "need " + n + " of " + count, x.need(n, 2), n < count ? 9 : -1);
                Check.due(8, "UNKNOWN is told ahead of BAD", x.need(n, 4), n < count ? -2 : -1);
            }
            Check.due(8, "need(-1, 0) of " + count, x.need(-1, 0), -1);
        }
        FirstUmbrella x = Towns.of("UW00N000N500N109");
        x.open(0);
        x.hour();
        Check.due(8, "2: broken", x.need(0, 3), 2);
        Check.due(8, "1: kept", x.need(1, 3), 1);
        Check.due(8, "0: open", x.need(2, 3), 0);
    }

    private static void promise9() {
        FirstUmbrella x = Towns.of("UW52W50W50W50W50");
        for (int i = 0; i < 5; i++) {
            Check.due(9, "so many are open in it", x.street(5, 2), i);
            x.open(i);
        }
        Check.due(9, "five are open in it", x.street(5, 2), 5);
        Check.due(9, "none in the first street", x.street(0, 2), 0);
        for (int n = 0; n <= 9; n++) {
            Check.due(9, "WET so many hours", x.street(5, 0), 2 * n);
            Check.due(9, "rain lasts for so many", x.street(5, 1), Math.max(7 - n, 0));
            x.hour();
        }
        Towns.hours(x, 190);
        Check.due(9, "WET has no bound", x.street(5, 0), 400);
        Check.due(9, "the first street is dry", x.street(0, 0), 0);
        Check.due(9, "street(-1, 0)", x.street(-1, 0), -1);
        Check.due(9, "street(6, 0)", x.street(6, 0), -1);
        Check.due(9, "UNKNOWN is told ahead of BAD", x.street(6, -1), -1);
        Check.due(9, "street(5, 3)", x.street(5, 3), -2);
        Check.due(9, "street(0, -1)", x.street(0, -1), -2);
    }
}
