/** The bounds of promises 15 to 21: 0 and 20 hours, all and none asked, first and last streets, doings at their ends. */
public final class AheadBoundsTest {
    private static final int NONE = -9;
    private static final String FIVE_BEANS = "N019N019N019N019N019";

    private AheadBoundsTest() {
    }

    public static void main(String[] args) {
        promise15();
        promise15Lasting();
        promise16();
        promise16FromLater();
        promise17();
        promise17Never();
        promise18Empty();
        promise18Best();
        promise18NineHours();
        promise18OpenOnes();
        promise19Streets();
        promise19NineHours();
        promise19Refused();
        promise20Figures();
        promise20Hours();
        promise20Umbrellas();
        promise20Walks();
        promise20Truths();
        promise20Places();
        promise20Row();
        promise21Ends();
        promise21Mean();
        promise21OpenOnes();
        nothingIsChanged();
        Check.end();
    }

    private static void promise15() {
        for (int s = 0; s <= 5; s++) {
            FirstUmbrella x = Towns.of("UW" + s + "0W" + s + "0");
            for (int n = 0; n <= 20; n++) {
                Check.due(15, "never wet IN " + n + " HOURS", x.wet(s, n), 0);
            }
            x.open(0);
            for (int n = 0; n <= 20; n++) {
                Check.due(15, "wet(" + s + ", " + n + ")", x.wet(s, n), n);
            }
            x.open(1);
            Check.due(15, "with HAIL, IN 0 HOURS", x.wet(s, 0), 0);
            Check.due(15, "with HAIL, IN 20 HOURS", x.wet(s, 20), 40);
            Towns.hours(x, 3);
            x.shut(0);
            x.shut(1);
            Check.due(15, "those ahead of now, too", x.wet(s, 0), 6);
            Check.due(15, "and none more", x.wet(s, 20), 6);
            Check.due(15, "BAD: n", x.wet(s, -1), -2);
            Check.due(15, "BAD: n", x.wet(s, 21), -2);
        }
    }

    private static void promise15Lasting() {
        FirstUmbrella x = Towns.of("UW02W51");
        x.open(0);
        x.shut(0);
        x.open(1);
        x.shut(1);
        for (int n = 0; n <= 20; n++) {
            Check.due(15, "where rain lasts for 7", x.wet(0, n), Math.min(n, 7));
            Check.due(15, "where rain lasts for 1", x.wet(5, n), Math.min(n, 1));
        }
        Check.due(15, "UNKNOWN", x.wet(6, 0), -1);
        Check.due(15, "UNKNOWN is told ahead of BAD", x.wet(-1, 21), -1);
    }

    private static void promise16() {
        FirstUmbrella x = Towns.of("UW00N000N009N028N019N129");
        x.open(0);
        Check.due(16, "IN 0 HOURS none is kept", x.needs(0, 0), 0);
        Check.due(16, "IN 0 HOURS none is broken", x.needs(0, 1), 0);
        Check.due(16, "IN 1 HOUR the hay is broken", x.needs(1, 1), 3);
        Check.due(16, "IN 8 HOURS the car is open", x.needs(8, 1), 3);
        Check.due(16, "IN 9 HOURS it is broken", x.needs(9, 1), 7);
        Check.due(16, "IN 8 HOURS the beans are open", x.needs(8, 0), 0);
        Check.due(16, "IN 9 HOURS they are kept", x.needs(9, 0), 8);
        Check.due(16, "IN 10 HOURS the dry car is kept", x.needs(10, 0), 24);
        Check.due(16, "IN 20 HOURS", x.needs(20, 0) * 100 + x.needs(20, 1), 2407);
        FirstUmbrella all = Towns.of("UN000N100N220N300N500");
        Check.due(16, "none IN 0 HOURS", all.needs(0, 0), 0);
        Check.due(16, "all five IN 1", all.needs(1, 0), 31);
        Check.due(16, "none is broken", all.needs(20, 1), 0);
        Check.due(16, "BAD: n", all.needs(-1, 0), -2);
        Check.due(16, "BAD: n", all.needs(21, 1), -2);
        Check.due(16, "BAD: what", all.needs(20, -1), -2);
        Check.due(16, "BAD: what", all.needs(0, 2), -2);
        Check.due(16, "BAD: both", all.needs(21, 2), -2);
    }

    private static void promise16FromLater() {
        FirstUmbrella x = Towns.of("UW02N009N019N020");
        Towns.hours(x, 9);
        Check.due(16, "now", x.needs(0, 0), 4);
        x.open(0);
        Check.due(16, "HAY of 9 is broken in HOUR 9", x.needs(1, 1), 1);
        x.shut(0);
        Check.due(16, "by rain that lasts, too", x.needs(1, 1), 1);
        Check.due(16, "BEANS of 9 are not wet by seven hours", x.needs(20, 0), 4);
        x.hour();
        x.open(0);
        Check.due(16, "seven more, and they are", x.needs(8, 0), 6);
        Check.due(16, "not IN 7, being wet 1 HOUR", x.needs(7, 0), 4);
    }

    private static void promise17() {
        for (int s = 0; s <= 5; s++) {
            FirstUmbrella x = Towns.of("UW" + s + "2W" + s + "1");
            Check.due(17, "0: now", x.dry(s), 0);
            x.open(0);
            x.shut(0);
            for (int left = 7; left >= 1; left--) {
                Check.due(17, "in so many hours", x.dry(s), left);
                x.hour();
            }
            Check.due(17, "0: now again", x.dry(s), 0);
            x.open(1);
            x.shut(1);
            Check.due(17, "in one hour", x.dry(s), 1);
            Check.due(17, "next door it is dry", x.dry(s == 5 ? 4 : s + 1), 0);
        }
    }

    private static void promise17Never() {
        for (int k = 0; k <= 3; k++) {
            FirstUmbrella x = Towns.of("UW0" + k + "W5" + k);
            x.open(0);
            x.open(1);
            Check.due(17, "NONE: open in the first street", x.dry(0), NONE);
            Check.due(17, "NONE: open in the last one", x.dry(5), NONE);
            Check.due(17, "beside the first one", x.dry(1), k == 3 ? NONE : 0);
            Check.due(17, "beside the last one", x.dry(4), k == 3 ? NONE : 0);
            Check.due(17, "further off", x.dry(2) + x.dry(3), 0);
        }
        FirstUmbrella x = Towns.of("U");
        Check.due(17, "UNKNOWN", x.dry(6), -1);
        Check.due(17, "UNKNOWN", x.dry(-1), -1);
    }

    private static void asked(String text, int which, int many) {
        FirstUmbrella x = Towns.of(text);
        Check.due(18, "which, of " + text, x.asked(0), which);
        Check.due(18, "how many, of " + text, x.asked(1), many);
    }

    private static void promise18Empty() {
        asked("U", 0, 0);
        asked("UW00W10W20W30W40", 0, 0);
        asked("UN000N009", 0, 1);
        asked("U" + FIVE_BEANS, 0, 0);
        FirstUmbrella x = Towns.of("UW00");
        Check.due(18, "BAD", x.asked(-1), -2);
        Check.due(18, "BAD", x.asked(2), -2);
    }

    private static void promise18Best() {
        asked("UW00W10W20W30W40N019N119N219N319N419", 31, 5);
        asked("UW00W00W00W00W00" + FIVE_BEANS, 1, 5);
        asked("UW50W50W50W50W00" + FIVE_BEANS, 16, 5);
        asked("UW10W00W20W03N011N111N211", 4 + 8, 3);
        asked("UW10W00W20W00N011N111N211", 1 + 2 + 4, 3);
        asked("UW00W10W03N011N111", 4, 2);
        asked("UW10W00W00N011", 2, 1);
        asked("UW20W20W10W10N111N211", 5, 2);
        asked("UW00N011N005", 0, 1);
        asked("UW00W00N011N012N005", 1, 2);
        asked("UW00W50N000N500N020N520N525", 0, 5);
    }

    private static void promise18NineHours() {
        asked("UW00N008", 0, 1);
        asked("UW00N009", 0, 0);
        asked("UW00N028N029", 0, 1);
        asked("UW00N019", 1, 1);
        FirstUmbrella x = Towns.of("UW00N009N029N019");
        x.hour();
        Check.due(18, "from HOUR 1 the ninth hour is HOUR 9: dry 2", x.asked(1), 2);
        Check.due(18, "nobody is asked", x.asked(0), 0);
        FirstUmbrella two = Towns.of("UW00W00N019");
        two.open(0);
        two.hour();
        two.shut(0);
        Check.due(18, "WET ahead of now counts", two.asked(0) * 10 + two.asked(1), 11);
    }

    private static void promise18OpenOnes() {
        FirstUmbrella x = Towns.of("UW00W10W20W30W40N019N119N219N319N419");
        for (int i = 0; i < 5; i++) {
            Check.due(18, "the shut ones alone are asked", x.asked(0), 31 - ((1 << i) - 1));
            Check.due(18, "all are kept", x.asked(1), 5);
            x.open(i);
        }
        Check.due(18, "all open: nobody is asked", x.asked(0), 0);
        Check.due(18, "what is kept by those", x.asked(1), 5);
    }

    private static void sent(String text, int where, int many) {
        FirstUmbrella x = Towns.of(text);
        Check.due(19, "which, of " + text, x.sent(0, 0), where);
        Check.due(19, "how many, of " + text, x.sent(0, 1), many);
        Check.due(19, "it stays where it is", x.walker(0, 0), text.charAt(2) - '0');
        Check.due(19, "and is shut", x.walker(0, 2), 0);
    }

    private static void promise19Streets() {
        for (int s = 0; s <= 5; s++) {
            sent("UW50N" + s + "19", s, 1);
            sent("UW03N" + s + "19", s == 0 ? 0 : s - 1, 1);
            sent("UW30", 0, 0);
            sent("UW50N000N100N200N300N400", 5, 5);
        }
        sent("UW00N100N200N300N400N500", 0, 5);
        sent("UW53N000N100N200", 4, 3);
        sent("UW50N019N519", 0, 1);
        sent("UW00N519N500", 0, 1);
        sent("UW00N519N500N511", 5, 2);
        sent("UW00N411N519", 4, 1);
        sent("UW02N519N411N412", 4, 2);
        FirstUmbrella x = Towns.of("UW00W00W00W00W00N519");
        Check.due(19, "the last walker", x.sent(4, 0) * 10 + x.sent(4, 1), 51);
        x.open(0);
        Check.due(19, "beside an open one", x.sent(4, 0), 5);
    }

    private static void promise19NineHours() {
        sent("UW00N008", 1, 1);
        sent("UW00N009", 0, 0);
        sent("UW20N019", 0, 1);
        FirstUmbrella x = Towns.of("UW00W50N519N509");
        x.open(1);
        x.hour();
        Check.due(19, "WET by an open one IN 9 HOURS more", x.sent(0, 1), 1);
        x.shut(1);
        Check.due(19, "WET ahead of now counts", x.sent(0, 0), 5);
    }

    private static void promise19Refused() {
        FirstUmbrella x = Towns.of("UW00W10");
        x.open(1);
        Check.due(19, "UNKNOWN is told ahead of BAD", x.sent(2, 2), -1);
        Check.due(19, "UNKNOWN", x.sent(-1, 0), -1);
        Check.due(19, "BAD", x.sent(0, 2), -2);
        Check.due(19, "BAD", x.sent(0, -1), -2);
        Check.due(19, "BAD is told ahead of LATE", x.sent(1, -1), -2);
        Check.due(19, "LATE", x.sent(1, 0), -3);
        Check.due(19, "LATE", x.sent(1, 1), -3);
        x.shut(1);
        Check.due(19, "shut again it is sent", x.sent(1, 0), 0);
    }

    /** A town of five and five, all shut: walker i in street i, and a car of hour 0 in each of five streets. */
    private static FirstUmbrella five() {
        return Towns.of("UW00W10W20W30W40N020N120N220N320N420");
    }

    private static void judged(FirstUmbrella x, int n, long row, int due) {
        Check.due(20, "judge(" + n + ", " + row + ")", x.judge(n, row), due);
    }

    /** Each of the thousand doings on its own, in a town in which all that is named is there. */
    private static void promise20Figures() {
        for (int shut = 0; shut < 2; shut++) {
            FirstUmbrella x = five();
            Towns.hours(x, 1);
            for (int i = 0; i < 5 && shut == 0; i++) {
                x.open(i);
            }
            int fine = 0;
            for (int doing = 0; doing <= 400; doing++) {
                fine += x.judge(1, doing) == NONE ? 1 : 0;
            }
            FirstUmbrella y = five();
            Towns.hours(y, 1);
            for (int i = 0; i < 5 && shut == 0; i++) {
                y.open(i);
            }
            for (int doing = 401; doing <= 860; doing++) {
                fine += y.judge(1, doing) == NONE ? 1 : 0;
            }
            Check.due(20, "1 hour, 5 shut, 5 in the rain, 5 kept; or 1, 5 opened, 9 walks, 5 kept", fine, shut == 0 ? 16 : 20);
        }
        FirstUmbrella x = five();
        for (int doing = 861; doing <= 999; doing++) {
            judged(x, 1, doing, 0);
        }
    }

    private static void promise20Hours() {
        FirstUmbrella x = five();
        judged(x, 1, 0L, NONE);
        judged(x, 2, 0L, NONE);
        judged(x, 3, 0L, NONE);
        judged(x, 4, 0L, NONE);
        judged(x, 1, 1L, 0);
        judged(x, 1, 9L, 0);
        judged(x, 1, 10L, 0);
        judged(x, 1, 90L, 0);
        judged(x, 2, 1L, 1);
        judged(x, 4, 1L, 3);
        judged(x, 4, 1000L, 2);
        judged(x, 4, 1000000L, 1);
        judged(x, 4, 1000000000L, 0);
    }

    private static void promise20Umbrellas() {
        FirstUmbrella x = five();
        judged(x, 1, 100L, NONE);
        judged(x, 1, 104L, NONE);
        judged(x, 1, 105L, 0);
        judged(x, 1, 109L, 0);
        judged(x, 1, 114L, 0);
        judged(x, 1, 200L, 0);
        judged(x, 1, 204L, 0);
        judged(x, 2, 104204L, NONE);
        judged(x, 2, 104205L, 1);
        judged(x, 2, 104214L, 1);
        judged(x, 2, 104104L, 1);
        judged(x, 3, 104204204L, 2);
        judged(x, 4, 104204104204L, NONE);
        judged(Towns.of("UW00"), 1, 101L, 0);
        judged(Towns.of("U"), 1, 100L, 0);
        FirstUmbrella silk = Towns.of("UW01W52");
        judged(silk, 4, 100200000400L, 3);
        judged(silk, 3, 100200400L, NONE);
        judged(silk, 4, 101201000405L, NONE);
        silk.open(0);
        judged(silk, 1, 100L, 0);
        judged(silk, 2, 200400L, NONE);
        judged(silk, 3, 200000400L, 2);
    }

    private static void promise20Walks() {
        FirstUmbrella x = Towns.of("UW00W50W20W20W20");
        judged(x, 1, 300L, 0);
        judged(x, 1, 301L, NONE);
        judged(x, 1, 310L, NONE);
        judged(x, 1, 311L, 0);
        judged(x, 1, 302L, 0);
        judged(x, 1, 309L, 0);
        judged(x, 1, 340L, NONE);
        judged(x, 1, 341L, NONE);
        judged(x, 1, 342L, 0);
        judged(x, 1, 350L, 0);
        judged(x, 1, 351L, 0);
        judged(x, 1, 391L, 0);
        judged(x, 2, 301300L, NONE);
        judged(x, 3, 301300300L, 2);
        judged(x, 3, 310311311L, 2);
        judged(x, 4, 321321321321L, 3);
        judged(x, 4, 320320320320L, 2);
        judged(x, 2, 102320L, 1);
        judged(x, 3, 102202320L, NONE);
        judged(x, 3, 301100401L, NONE);
        judged(x, 3, 301100400L, 2);
    }

    private static void promise20Truths() {
        FirstUmbrella x = Towns.of("UW00W50N020N120N220N320N420");
        judged(x, 1, 400L, 0);
        judged(x, 1, 405L, 0);
        judged(x, 2, 100400L, NONE);
        judged(x, 2, 101405L, NONE);
        judged(x, 2, 101406L, 1);
        judged(x, 2, 101409L, 1);
        judged(x, 2, 101415L, 1);
        judged(x, 1, 500L, 0);
        judged(x, 2, 500L, NONE);
        judged(x, 2, 504L, NONE);
        judged(x, 2, 505L, 1);
        judged(x, 2, 509L, 1);
        judged(x, 2, 510L, 1);
        judged(x, 3, 100000500L, 2);
        judged(x, 3, 100000501L, NONE);
        judged(x, 4, 400500L, 2);
        judged(x, 4, 504400L, 3);
        judged(Towns.of("UN020"), 2, 501L, 1);
        judged(Towns.of("U"), 2, 500L, 1);
        judged(x, 1, 600L, 0);
        judged(x, 1, 999L, 0);
    }

    private static void promise20Places() {
        FirstUmbrella x = Towns.of("UW00");
        judged(x, 4, 999000000000L, 0);
        judged(x, 4, 999999999999L, 0);
        judged(x, 4, 999000000L, 1);
        judged(x, 4, 999000L, 2);
        judged(x, 4, 999L, 3);
        judged(x, 3, 999L, 2);
        judged(x, 2, 999L, 1);
        judged(x, 4, 100400200400L, 3);
        judged(x, 4, 100400200000L, NONE);
        judged(x, 4, 200100100100L, 0);
        Check.due(20, "nothing is done by it", x.about(2) + x.about(3) + x.about(8), 0);
    }

    private static void promise20Row() {
        FirstUmbrella x = Towns.of("UW00");
        long most = 1;
        for (int n = 1; n <= 4; n++) {
            most *= 1000;
            judged(x, n, most - 1, 0);
            judged(x, n, most, -2);
            judged(x, n, -1, -2);
            judged(x, n, Long.MIN_VALUE, -2);
            judged(x, n, Long.MAX_VALUE, -2);
        }
        for (int n : new int[] {0, 5, -1, -4, Integer.MIN_VALUE, Integer.MAX_VALUE}) {
            judged(x, n, 0L, -2);
            judged(x, n, 100L, -2);
            judged(x, n, -1L, -2);
            judged(x, n, Long.MAX_VALUE, -2);
        }
    }

    private static void share(FirstUmbrella x, int walker, int above, int below) {
        Check.due(21, "share(" + walker + ") above", x.share(walker, true), above);
        Check.due(21, "share(" + walker + ") below", x.share(walker, false), below);
    }

    private static void promise21Ends() {
        share(Towns.of("UW00"), 0, 0, 1);
        share(Towns.of("UW00" + FIVE_BEANS), 0, 5, 1);
        share(Towns.of("UW00N000N001N002N003N008"), 0, -5, 1);
        share(Towns.of("UW00N009"), 0, 0, 1);
        share(Towns.of("UW00N008"), 0, -1, 1);
        share(Towns.of("UW00N019N001"), 0, 0, 1);
        FirstUmbrella five = Towns.of("UW00W00W00W00W00N018");
        for (int i = 0; i < 5; i++) {
            share(five, i, 1, 5);
        }
        FirstUmbrella hay = Towns.of("UW50W50W50W50W50N505N506");
        share(hay, 0, -2, 5);
        share(hay, 4, -2, 5);
        Check.due(21, "UNKNOWN", hay.share(5, true), -1);
        Check.due(21, "UNKNOWN", hay.share(-1, false), -1);
        Check.due(21, "UNKNOWN", Towns.of("U").share(0, false), -1);
    }

    private static void promise21Mean() {
        FirstUmbrella two = Towns.of("UW00W00W50W50W50N019N019");
        share(two, 0, 1, 1);
        share(two, 1, 1, 1);
        share(two, 4, 0, 1);
        FirstUmbrella three = Towns.of("UW00W00W00N013N005");
        share(three, 0, 0, 1);
        FirstUmbrella bishop = Towns.of("UW03W10W10N111N111N111N005");
        share(bishop, 0, 0, 1);
        share(bishop, 1, 1, 1);
        share(bishop, 2, 1, 1);
        FirstUmbrella four = Towns.of("UW00W00W00W00N011N001N511");
        share(four, 3, 0, 1);
        share(Towns.of("UW00W00W00W00N011"), 3, 1, 4);
        share(Towns.of("UW00W00W00W00N011N012N013"), 0, 3, 4);
    }

    private static void promise21OpenOnes() {
        FirstUmbrella x = Towns.of("UW00W00N011");
        x.open(0);
        share(x, 0, 1, 2);
        share(x, 1, 1, 2);
        FirstUmbrella all = Towns.of("UW01W01W01W01W01N011");
        for (int i = 0; i < 5; i++) {
            all.open(i);
        }
        share(all, 0, 1, 5);
        share(all, 4, 1, 5);
        FirstUmbrella lasting = Towns.of("UW02N011N018N019");
        lasting.open(0);
        share(lasting, 0, 2, 1);
        lasting.shut(0);
        share(lasting, 0, 2, 1);
        FirstUmbrella shower = Towns.of("UW01N011");
        shower.open(0);
        shower.shut(0);
        share(shower, 0, 0, 1);
    }

    private static void nothingIsChanged() {
        for (int call = 0; call < 7; call++) {
            FirstUmbrella x = asking();
            switch (call) {
                case 0: x.wet(0, 20); break;
                case 1: x.needs(20, 0); break;
                case 2: x.dry(2); break;
                case 3: x.asked(0); break;
                case 4: x.sent(1, 0); break;
                case 5: x.judge(4, 202311101000L); break;
                default: x.share(0, true);
            }
            Check.due("Promises 15 to 21: call " + call + " changes nothing", Towns.whole(x), Towns.whole(asking()));
        }
    }

    private static FirstUmbrella asking() {
        FirstUmbrella x = Towns.of("UW00W11W22W33W50N019N108N225N318N529");
        x.open(2);
        x.hour();
        x.keep(1);
        x.open(0);
        x.walk(4, false);
        x.hour();
        x.open(3);
        x.seed(-3);
        x.feel(4, 4, 1);
        return x;
    }
}
