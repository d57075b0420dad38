/** The bounds of promises 10 to 14: first and last streets, what lasts, needs at their hours, the row of acts. */
public final class ActBoundsTest {
    private ActBoundsTest() {
    }

    public static void main(String[] args) {
        promise10();
        promise10AtLeastSeven();
        promise10Refused();
        promise11();
        promise11AtLeastOne();
        promise11OfOthersNothing();
        promise12();
        promise12Refused();
        promise13Rain();
        promise13Lasting();
        promise13Wet();
        promise13Hay();
        promise13HayInItsStreetAlone();
        promise13Beans();
        promise13Car();
        promise13StaysSo();
        promise14EachAct();
        promise14Fourteen();
        promise14Refused();
        Check.end();
    }

    private static void promise10() {
        for (int s = 0; s <= 5; s++) {
            FirstUmbrella x = Towns.of("U" + ("W" + s + "0").repeat(5));
            for (int i = 4; i >= 0; i--) {
                Check.due(10, "so many are open in street " + s, x.open(i), 5 - i);
            }
            FirstUmbrella beside = Towns.of("UW" + s + "0W" + (s == 5 ? 4 : s + 1) + "0");
            beside.open(1);
            Check.due(10, "those next door do not count", beside.open(0), 1);
            FirstUmbrella bishop = Towns.of("UW" + s + "3");
            bishop.open(0);
            int due = (s == 0 ? 0 : 1 << s - 1) + (1 << s) + (s == 5 ? 0 : 1 << s + 1);
            Check.due(10, "a bishop's wets those beside " + s, bishop.about(4), due);
        }
    }

    private static void promise10AtLeastSeven() {
        for (int k = 0; k <= 3; k++) {
            FirstUmbrella x = Towns.of("UW0" + k + "W5" + k);
            x.open(0);
            x.open(1);
            Check.due(10, "rain lasts for GINGHAM alone: stuff " + k, x.street(0, 1), k == 2 ? 7 : 0);
            Check.due(10, "in the last street too", x.street(5, 1), k == 2 ? 7 : 0);
            Check.due(10, "not next door", x.street(1, 1) + x.street(4, 1), 0);
        }
        for (int passed = 0; passed <= 8; passed++) {
            FirstUmbrella x = Towns.of("UW32W32");
            x.open(0);
            Towns.hours(x, passed);
            Check.due(10, "lasts behind " + passed, x.street(3, 1), Math.max(7 - passed, 0));
            x.open(1);
            Check.due(10, "7 at least, and no more, behind " + passed, x.street(3, 1), 7);
        }
        FirstUmbrella shower = Towns.of("UW31W32");
        shower.open(0);
        shower.shut(0);
        shower.open(1);
        Check.due(10, "7 where 1 lasts", shower.street(3, 1), 7);
    }

    private static void promise10Refused() {
        FirstUmbrella x = Towns.of("UW02W12W22");
        x.open(1);
        x.hour();
        Check.due(10, "LATE: it is open", x.open(1), -3);
        Check.due(10, "nothing lasts longer by that", x.street(1, 1), 6);
        Check.due(10, "that was no act", x.about(8), 2);
        Check.due(10, "open(3) of three", x.open(3), -1);
        Check.due(10, "open(-1)", x.open(-1), -1);
        x.shut(1);
        Check.due(10, "shut again it opens", x.open(1), 1);
        Check.due(10, "and rain lasts for 7", x.street(1, 1), 7);
    }

    private static void promise11() {
        for (int s = 0; s <= 5; s++) {
            FirstUmbrella x = Towns.of("U" + ("W" + s + "0").repeat(5));
            for (int i = 0; i < 5; i++) {
                x.open(i);
            }
            for (int i = 0; i < 5; i++) {
                Check.due(11, "so many are open in it then", x.shut(i), 4 - i);
                Check.due(11, "hail of two or more", x.about(5), i <= 2 ? 1 << s : 0);
                Check.due(11, "rain of one or more", x.about(4), i <= 3 ? 1 << s : 0);
            }
        }
        FirstUmbrella x = Towns.of("UW02W12");
        x.open(0);
        Check.due(11, "LATE: it is shut", x.shut(1), -3);
        x.shut(0);
        Check.due(11, "LATE: shut twice", x.shut(0), -3);
        Check.due(11, "shut(2) of two", x.shut(2), -1);
        Check.due(11, "shut(-1)", x.shut(-1), -1);
        Check.due(11, "those were no acts", x.about(8), 2);
    }

    private static void promise11AtLeastOne() {
        for (int s = 0; s <= 5; s++) {
            FirstUmbrella x = Towns.of("UW" + s + "1W" + s + "1W" + s + "2");
            x.open(0);
            x.open(1);
            Check.due(11, "SILK open: nothing lasts", x.street(s, 1), 0);
            x.shut(0);
            Check.due(11, "1 at least", x.street(s, 1), 1);
            x.shut(1);
            Check.due(11, "1 where 1 lasts: no more", x.street(s, 1), 1);
            x.open(2);
            x.open(0);
            for (int left = 7; left >= 2; left--) {
                x.shut(0);
                Check.due(11, "where " + left + " lasts: no less", x.street(s, 1), left);
                x.open(0);
                x.hour();
            }
            x.hour();
            Check.due(11, "nothing lasts", x.street(s, 1), 0);
            x.shut(0);
            Check.due(11, "1 again", x.street(s, 1), 1);
        }
    }

    private static void promise11OfOthersNothing() {
        FirstUmbrella x = Towns.of("UW00W12W33");
        for (int i = 0; i < 3; i++) {
            x.open(i);
        }
        Towns.hours(x, 7);
        for (int i = 0; i < 3; i++) {
            x.shut(i);
        }
        Check.due(11, "PLAIN, GINGHAM, BISHOP shut: no rain", x.about(4), 0);
        Check.due(11, "nothing lasts", x.street(0, 1) + x.street(1, 1) + x.street(3, 1), 0);
    }

    private static void promise12() {
        FirstUmbrella x = Towns.of("UW02W53");
        for (int s = 1; s <= 5; s++) {
            Check.due(12, "walked up", x.walk(0, true), s);
        }
        Check.due(12, "LATE: there is no STREET 6", x.walk(0, true), -3);
        Check.due(12, "it is in STREET 5", x.walker(0, 0), 5);
        for (int s = 4; s >= 0; s--) {
            Check.due(12, "walked down", x.walk(0, false), s);
        }
        Check.due(12, "LATE: there is no STREET below 0", x.walk(0, false), -3);
        Check.due(12, "it is in STREET 0", x.walker(0, 0), 0);
        Check.due(12, "the other one walks down", x.walk(1, false), 4);
        Check.due(12, "and up", x.walk(1, true), 5);
        Check.due(12, "LATE at once", x.walk(1, true), -3);
        Check.due(12, "twelve acts", x.about(8), 12);
        Check.due(12, "a walk brings no rain", x.about(4), 0);
    }

    private static void promise12Refused() {
        FirstUmbrella x = Towns.of("UW02W53W30");
        for (int i = 0; i < 3; i++) {
            x.open(i);
        }
        for (int i = 0; i < 3; i++) {
            Check.due(12, "LATE: open, up", x.walk(i, true), -3);
            Check.due(12, "LATE: open, down", x.walk(i, false), -3);
        }
        Check.due(12, "walk(3, true) of three", x.walk(3, true), -1);
        Check.due(12, "walk(-1, false)", x.walk(-1, false), -1);
        Check.due(12, "those were no acts", x.about(8), 3);
        x.shut(0);
        Check.due(12, "shut it walks", x.walk(0, true), 1);
        Check.due(12, "what lasts stays where it was", x.street(0, 1) * 10 + x.street(1, 1), 70);
        x.open(0);
        Check.due(12, "it rains where it was opened", x.street(1, 1) * 10 + x.street(1, 2), 71);
    }

    private static void promise13Rain() {
        FirstUmbrella x = Towns.of("UW13W43W00W50");
        Check.due(13, "no rain", x.hour(), 0);
        x.open(2);
        Check.due(13, "the first street alone", x.hour(), 1);
        x.shut(2);
        x.open(3);
        Check.due(13, "the last street alone", x.hour(), 32);
        x.open(0);
        x.open(1);
        Check.due(13, "all streets", x.hour(), 63);
        Check.due(13, "THE HOUR is one more each", x.about(2), 4);
        FirstUmbrella ends = Towns.of("UW03W53");
        ends.open(0);
        Check.due(13, "a bishop's in 0: 1 alone is beside it", ends.hour(), 3);
        ends.shut(0);
        ends.open(1);
        Check.due(13, "a bishop's in 5: 4 alone is beside it", ends.hour(), 48);
    }

    private static void promise13Lasting() {
        FirstUmbrella x = Towns.of("UW02W51");
        x.open(0);
        x.shut(0);
        for (int n = 0; n < 7; n++) {
            Check.due(13, "rain in hour " + n + " of seven", x.hour(), 1);
        }
        Check.due(13, "no rain in the eighth", x.hour(), 0);
        x.open(1);
        x.shut(1);
        Check.due(13, "SILK: rain for one hour", x.hour(), 32);
        Check.due(13, "and no more", x.hour(), 0);
        Check.due(13, "nothing lasts less than 0", x.street(0, 1) + x.street(5, 1), 0);
        Check.due(13, "WET 7 and 1", x.street(0, 0) * 10 + x.street(5, 0), 71);
    }

    private static void promise13Wet() {
        FirstUmbrella x = Towns.of("UW20W22W20W20W20");
        int[] due = {0, 1, 3, 5, 7, 9};
        for (int open = 1; open <= 5; open++) {
            x.open(open - 1);
            x.hour();
            Check.due(13, "WET 1 HOUR more, with HAIL 2: " + open + " open", x.street(2, 0), due[open]);
        }
        FirstUmbrella lasting = Towns.of("UW22W33W20");
        lasting.open(0);
        lasting.shut(0);
        lasting.open(1);
        lasting.open(2);
        lasting.hour();
        Check.due(13, "one open, a bishop's beside, rain that lasts: 1", lasting.street(2, 0), 1);
        Check.due(13, "beside a bishop's: 1", lasting.street(4, 0), 1);
        Check.due(13, "where there is no rain: 0", lasting.street(5, 0) + lasting.street(1, 0), 0);
    }

    /** What is of the one need of a town behind so many hours, if it rains in street 0 in the hours from .. to alone. */
    private static int fate(String need, int from, int to, int behind) {
        FirstUmbrella x = Towns.of("UW00" + need);
        for (int hour = 0; hour < behind; hour++) {
            if (hour == from) {
                x.open(0);
            }
            if (hour == to + 1) {
                x.shut(0);
            }
            x.hour();
        }
        return x.need(0, 3);
    }

    private static void promise13Hay() {
        for (int h = 0; h <= 9; h++) {
            String hay = "N00" + h;
            Check.due(13, "HAY of " + h + " is open till its hour", fate(hay, 99, 99, h), 0);
            Check.due(13, "HAY of " + h + " is kept in it", fate(hay, 99, 99, h + 1), 1);
            Check.due(13, "HAY of " + h + ": rain in its hour breaks it", fate(hay, h, h, h + 1), 2);
            Check.due(13, "HAY of " + h + ": rain behind its hour does not", fate(hay, h + 1, 99, 12), 1);
            if (h > 0) {
                Check.due(13, "HAY of " + h + ": rain in hour 0 breaks it at once", fate(hay, 0, 0, 1), 2);
                Check.due(13, "HAY of " + h + ": rain in the hour ahead of its", fate(hay, h - 1, h - 1, h), 2);
            }
        }
    }

    private static void promise13HayInItsStreetAlone() {
        for (int s = 0; s <= 5; s++) {
            FirstUmbrella x = Towns.of("UW" + s + "0N005N105N205N305N405");
            x.open(0);
            x.hour();
            Check.due(13, "HAY is broken in street " + s + " alone", x.about(7), s < 5 ? 1 << s : 0);
        }
        FirstUmbrella end = Towns.of("UW50N505N520");
        end.open(0);
        end.hour();
        Check.due(13, "HAY and CAR in the last street", end.about(7), 3);
    }

    private static void promise13Beans() {
        for (int h = 1; h <= 9; h++) {
            String beans = "N01" + h;
            Check.due(13, "BEANS of " + h + ", wet one hour less", fate(beans, 0, h - 2, 12), 0);
            Check.due(13, "BEANS of " + h + ", wet so long", fate(beans, 0, h - 1, h), 1);
            Check.due(13, "BEANS of " + h + ", not yet", fate(beans, 0, 99, h - 1), 0);
            Check.due(13, "BEANS of " + h + " late", fate(beans, 11, 99, 11 + h), 1);
            Check.due(13, "BEANS of " + h + " are not broken", fate(beans, 99, 99, 20), 0);
        }
        FirstUmbrella x = Towns.of("UW00W00N011N012N013N018N019");
        x.open(0);
        x.open(1);
        int[] due = {0, 3, 7, 7, 15, 31};
        for (int hours = 1; hours <= 5; hours++) {
            x.hour();
            Check.due(13, "by HAIL 2 an hour, WET " + 2 * hours, x.about(6), due[hours]);
        }
    }

    private static void promise13Car() {
        for (int h = 0; h <= 9; h++) {
            String car = "N02" + h;
            Check.due(13, "CAR of " + h + " is open till its hour", fate(car, 0, 99, h), 0);
            Check.due(13, "CAR of " + h + ": no rain in it", fate(car, 99, 99, h + 1), 1);
            Check.due(13, "CAR of " + h + ": rain in it", fate(car, h, h, h + 1), 2);
            Check.due(13, "CAR of " + h + ": rain ahead of it alone", fate(car, 0, h - 1, h + 1), 1);
            Check.due(13, "CAR of " + h + ": rain behind it alone", fate(car, h + 1, 99, 12), 1);
        }
    }

    private static void promise13StaysSo() {
        for (int h = 0; h <= 9; h++) {
            Check.due(13, "broken HAY stays so", fate("N00" + h, h, h, 30), 2);
            Check.due(13, "kept HAY stays so", fate("N00" + h, h + 1, 99, 30), 1);
            Check.due(13, "a broken CAR stays so", fate("N02" + h, h, h, 30), 2);
            Check.due(13, "a kept CAR stays so", fate("N02" + h, h + 1, 99, 30), 1);
        }
        Check.due(13, "kept BEANS stay so", fate("N011", 0, 0, 30), 1);
    }

    /** A town behind so many acts of each kind. */
    private static FirstUmbrella behindActs(int acts) {
        FirstUmbrella x = Towns.of("UW02W11W53N005N115N520");
        for (int act = 0; act < acts; act++) {
            switch (act) {
                case 0: x.open(1); break;
                case 1: x.open(0); break;
                case 2: x.shut(1); break;
                case 3: x.walk(2, false); break;
                case 4: x.hour(); break;
                case 5: x.walk(2, true); break;
                default: x.open(2);
            }
        }
        return x;
    }

    private static void promise14EachAct() {
        for (int acts = 1; acts <= 7; acts++) {
            FirstUmbrella x = behindActs(acts);
            Check.due(14, "so many are left", x.undo(), acts - 1);
            Check.due(14, "the one of number " + acts + " is undone", Towns.whole(x), Towns.whole(behindActs(acts - 1)));
        }
        FirstUmbrella x = behindActs(7);
        for (int left = 6; left >= 0; left--) {
            Check.due(14, "so many are left", x.undo(), left);
        }
        Check.due(14, "LATE: there is none", x.undo(), -3);
        Check.due(14, "all is as it was", Towns.whole(x), Towns.whole(behindActs(0)));
    }

    private static void promise14Fourteen() {
        for (int acts = 1; acts <= 20; acts++) {
            FirstUmbrella x = Towns.of("UW00");
            Towns.hours(x, acts);
            int kept = Math.min(acts, 14);
            Check.due(14, "ACTS of " + acts, x.about(8), kept);
            for (int left = kept - 1; left >= 0; left--) {
                Check.due(14, "undone of " + acts, x.undo(), left);
            }
            Check.due(14, "LATE: the first ones are forgotten", x.undo(), -3);
            Check.due(14, "so many hours stay", x.about(2), acts - kept);
            Towns.hours(x, 15);
            Check.due(14, "the row fills again", x.about(8), 14);
            Check.due(14, "THE HOUR", x.about(2), acts - kept + 15);
            Check.due(14, "an undone one makes room", x.undo(), 13);
            x.open(0);
            Check.due(14, "for one", x.about(8), 14);
            x.undo();
            Check.due(14, "which is undone alone", x.about(3) * 100 + x.about(2), acts - kept + 14);
        }
    }

    private static void promise14Refused() {
        FirstUmbrella x = Towns.of("UW00W50");
        Check.due(14, "LATE in a new town", x.undo(), -3);
        x.hour();
        x.shut(0);
        x.walk(0, false);
        x.walk(1, true);
        x.open(2);
        x.keep(0);
        x.feel(0, 0, 0);
        x.seed(1);
        x.weeks(30);
        x.write('U');
        Check.due(14, "what is refused, and what is no act, is not undone", x.undo(), 0);
        Check.due(14, "but the hour is", x.about(2), 0);
        Check.due(14, "the seed is not", x.seed(1) == 1 ? 1 : 0, 0);
        Check.due(14, "nor what is felt", x.about(9), 1);
        Check.due(14, "nor the text", x.about(10), 8);
        Check.due(14, "nor what is kept", x.again(0), 1);
    }
}
