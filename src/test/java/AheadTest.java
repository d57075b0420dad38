/** Promises 15 to 21: hours to come, asking. */
public final class AheadTest {
    private AheadTest() {
    }

    public static void main(String[] args) {
        wetByThen();
        needsByThen();
        dryFirst();
        askedOfSets();
        askedBehindNineHours();
        sentToAStreet();
        sentRefused();
        judgedHourAndUmbrellas();
        judgedWalksAndTruths();
        judgedRefused();
        shares();
        sharesOfOpenOnes();
        nothingIsChanged();
        Check.end();
    }

    private static void wetByThen() {
        FirstUmbrella x = Towns.of("UW10W10W32");
        x.open(0);
        x.hour();
        Check.due("wet(1, 0)", x.wet(1, 0), 1);
        Check.due("wet(1, 1)", x.wet(1, 1), 2);
        Check.due("wet(1, 20)", x.wet(1, 20), 21);
        x.open(1);
        Check.due("wet(1, 20) with hail", x.wet(1, 20), 41);
        x.open(2);
        x.shut(2);
        Check.due("wet(3, 20)", x.wet(3, 20), 7);
        Check.due("wet(0, 20)", x.wet(0, 20), 0);
        Check.due("wet(6, 0)", x.wet(6, 0), -1);
        Check.due("wet(-1, 21)", x.wet(-1, 21), -1);
        Check.due("wet(0, -1)", x.wet(0, -1), -2);
        Check.due("wet(0, 21)", x.wet(0, 21), -2);
    }

    private static void needsByThen() {
        FirstUmbrella x = Towns.of("UW10N109N125N113N009");
        x.open(0);
        Check.due("needs(0, 0)", x.needs(0, 0), 0);
        Check.due("needs(0, 1)", x.needs(0, 1), 0);
        Check.due("needs(1, 1)", x.needs(1, 1), 1);
        Check.due("needs(2, 0)", x.needs(2, 0), 0);
        Check.due("needs(3, 0)", x.needs(3, 0), 4);
        Check.due("needs(5, 1)", x.needs(5, 1), 1);
        Check.due("needs(6, 1)", x.needs(6, 1), 3);
        Check.due("needs(9, 0)", x.needs(9, 0), 4);
        Check.due("needs(10, 0)", x.needs(10, 0), 12);
        Check.due("needs(20, 0)", x.needs(20, 0), 12);
        Check.due("needs(-1, 0)", x.needs(-1, 0), -2);
        Check.due("needs(21, 0)", x.needs(21, 0), -2);
        Check.due("needs(0, 2)", x.needs(0, 2), -2);
        Check.due("needs(0, -1)", x.needs(0, -1), -2);
    }

    private static void dryFirst() {
        FirstUmbrella x = Towns.of("UW11W32W40");
        Check.due("dry now", x.dry(1), 0);
        x.open(0);
        Check.due("open: never", x.dry(1), -9);
        x.shut(0);
        Check.due("a shower", x.dry(1), 1);
        x.open(1);
        x.shut(1);
        Check.due("a week", x.dry(3), 7);
        x.hour();
        Check.due("an hour less", x.dry(3), 6);
        Check.due("dry(6)", x.dry(6), -1);
        Check.due("dry(-1)", x.dry(-1), -1);
    }

    private static void askedIs(String text, int which, int many) {
        FirstUmbrella x = Towns.of(text);
        Check.due("asked(0) of " + text, x.asked(0), which);
        Check.due("asked(1) of " + text, x.asked(1), many);
    }

    private static void askedOfSets() {
        askedIs("U", 0, 0);
        askedIs("UW00", 0, 0);
        askedIs("UW00N014", 1, 1);
        askedIs("UW00N005", 0, 1);
        askedIs("UW00W10N015N115", 3, 2);
        askedIs("UW00W10W03N015N115", 4, 2);
        askedIs("UW10W10N115", 1, 1);
        askedIs("UW53W10N005N105N115", 0, 2);
        askedIs("UW00W10W20W30W40N019N119N219N319N419", 31, 5);
        FirstUmbrella x = Towns.of("UW10W10W00N115N015");
        x.open(0);
        Check.due("an open one is not asked", x.asked(0), 4);
        Check.due("but counts", x.asked(1), 2);
        Check.due("asked(2)", x.asked(2), -2);
        Check.due("asked(-1)", x.asked(-1), -2);
    }

    private static void askedBehindNineHours() {
        askedIs("UW00N009", 0, 0);
        askedIs("UW00N008", 0, 1);
        askedIs("UW00N019", 1, 1);
        FirstUmbrella x = Towns.of("UW00N009N011");
        x.hour();
        Check.due("one hour on, hay of 9 counts", x.asked(1), 1);
        Check.due("one hour on, nobody", x.asked(0), 0);
    }

    private static void sentToAStreet() {
        FirstUmbrella x = Towns.of("UW50N315");
        Check.due("sent to the beans", x.sent(0, 0), 3);
        Check.due("how many", x.sent(0, 1), 1);
        Check.due("it is not there", x.walker(0, 0), 5);
        FirstUmbrella y = Towns.of("UW50W10");
        Check.due("the least", y.sent(0, 0), 0);
        Check.due("none", y.sent(0, 1), 0);
        FirstUmbrella z = Towns.of("UW53N014N214");
        Check.due("a bishop between", z.sent(0, 0), 1);
        Check.due("both", z.sent(0, 1), 2);
        FirstUmbrella hay = Towns.of("UW00N005N405N509");
        Check.due("away from the hay", hay.sent(0, 0), 1);
        Check.due("behind nine hours", hay.sent(0, 1), 2);
        FirstUmbrella week = Towns.of("UW02W50N519");
        week.open(1);
        Check.due("others stay", week.sent(0, 1), 1);
        FirstUmbrella behind = Towns.of("UW00N005N319");
        behind.judge(2, 100000L);
        Check.due("what was asked ahead is nothing to it", behind.sent(0, 0), 3);
        behind.judge(2, 100000L);
        Check.due("nor to how many", behind.sent(0, 1), 2);
        Check.due("to the last street", Towns.of("UW00N519").sent(0, 0), 5);
    }

    private static void sentRefused() {
        FirstUmbrella x = Towns.of("UW50N315");
        Check.due("sent(1, 2)", x.sent(1, 2), -1);
        Check.due("sent(-1, 0)", x.sent(-1, 0), -1);
        Check.due("sent(0, 2)", x.sent(0, 2), -2);
        Check.due("sent(0, -1)", x.sent(0, -1), -2);
        x.open(0);
        Check.due("bad is told ahead of late", x.sent(0, 2), -2);
        Check.due("sent(0, 0)", x.sent(0, 0), -3);
        Check.due("sent(0, 1)", x.sent(0, 1), -3);
    }

    private static void judgedIs(FirstUmbrella x, int n, long row, int due) {
        Check.due("judge(" + n + ", " + row + ")", x.judge(n, row), due);
    }

    private static void judgedHourAndUmbrellas() {
        FirstUmbrella x = Towns.of("UW01W12");
        judgedIs(x, 1, 0L, -9);
        judgedIs(x, 4, 0L, -9);
        judgedIs(x, 1, 1L, 0);
        judgedIs(x, 1, 10L, 0);
        judgedIs(x, 1, 100L, -9);
        judgedIs(x, 1, 101L, -9);
        judgedIs(x, 1, 102L, 0);
        judgedIs(x, 1, 110L, 0);
        judgedIs(x, 1, 200L, 0);
        judgedIs(x, 2, 100200L, -9);
        judgedIs(x, 2, 100210L, 1);
        judgedIs(x, 2, 100100L, 1);
        judgedIs(x, 3, 100200200L, 2);
        judgedIs(x, 2, 100209L, 1);
        judgedIs(x, 4, 101201000401L, -9);
        judgedIs(x, 4, 100200000400L, 3);
        judgedIs(x, 3, 100200400L, -9);
        judgedIs(x, 2, 100L, -9);
        judgedIs(x, 2, 1100L, 0);
        judgedIs(x, 4, 999L, 3);
        judgedIs(x, 1, 600L, 0);
        judgedIs(x, 1, 700L, 0);
        judgedIs(x, 1, 800L, 0);
        judgedIs(x, 1, 900L, 0);
    }

    private static void judgedWalksAndTruths() {
        FirstUmbrella x = Towns.of("UW00W40N020N019N001");
        judgedIs(x, 1, 300L, 0);
        judgedIs(x, 1, 301L, -9);
        judgedIs(x, 2, 301300L, -9);
        judgedIs(x, 1, 302L, 0);
        judgedIs(x, 1, 320L, 0);
        judgedIs(x, 1, 321L, 0);
        judgedIs(x, 2, 311311L, 1);
        judgedIs(x, 2, 100301L, 1);
        judgedIs(x, 3, 301100401L, -9);
        judgedIs(x, 3, 301100400L, 2);
        judgedIs(x, 1, 400L, 0);
        judgedIs(x, 2, 100400L, -9);
        judgedIs(x, 2, 100410L, 1);
        judgedIs(x, 2, 100406L, 1);
        judgedIs(x, 1, 500L, 0);
        judgedIs(x, 2, 500L, -9);
        judgedIs(x, 2, 510L, 1);
        judgedIs(x, 2, 502L, 1);
        judgedIs(x, 3, 502L, -9);
        judgedIs(x, 3, 503L, 2);
        judgedIs(x, 3, 100000500L, 2);
        judgedIs(x, 2, 505L, 1);
        judgedIs(x, 2, 509L, 1);
        x.open(0);
        judgedIs(x, 2, 200301L, -9);
        judgedIs(x, 1, 400L, -9);
    }

    private static void judgedRefused() {
        FirstUmbrella x = Towns.of("UW00");
        judgedIs(x, 0, 0L, -2);
        judgedIs(x, -1, 0L, -2);
        judgedIs(x, 5, 0L, -2);
        judgedIs(x, 1, -1L, -2);
        judgedIs(x, 4, Long.MIN_VALUE, -2);
        judgedIs(x, 4, Long.MAX_VALUE, -2);
        judgedIs(x, 1, 1000L, -2);
        judgedIs(x, 1, 999L, 0);
        judgedIs(x, 2, 1000000L, -2);
        judgedIs(x, 2, 999999L, 0);
        judgedIs(x, 3, 1000000000L, -2);
        judgedIs(x, 3, 999999999L, 0);
        judgedIs(x, 4, 1000000000000L, -2);
        judgedIs(x, 4, 999999999999L, 0);
    }

    private static void shareIs(FirstUmbrella x, int walker, int above, int below) {
        Check.due("share(" + walker + ", true)", x.share(walker, true), above);
        Check.due("share(" + walker + ", false)", x.share(walker, false), below);
    }

    private static void shares() {
        FirstUmbrella two = Towns.of("UW00W00W10N013");
        shareIs(two, 0, 1, 2);
        shareIs(two, 1, 1, 2);
        shareIs(two, 2, 0, 1);
        shareIs(Towns.of("UW00N005"), 0, -1, 1);
        shareIs(Towns.of("UW00W00N003"), 1, -1, 2);
        shareIs(Towns.of("UW00W00W00N013"), 2, 1, 3);
        shareIs(Towns.of("UW00W00N013N012"), 0, 1, 1);
        shareIs(Towns.of("UW00W00W00W00W00N013N012"), 4, 2, 5);
        shareIs(Towns.of("UW00W00W00W00W13N013"), 0, 1, 5);
        shareIs(Towns.of("UW00W00W10W10N013N103N113"), 2, 0, 1);
        FirstUmbrella mixed = Towns.of("UW00W00W10W03N013N013N013N105");
        shareIs(mixed, 2, -1, 2);
        shareIs(mixed, 3, 1, 2);
        Check.due("share(4, true)", mixed.share(4, true), -1);
        Check.due("share(-1, false)", mixed.share(-1, false), -1);
    }

    private static void sharesOfOpenOnes() {
        FirstUmbrella plain = Towns.of("UW00N013");
        plain.open(0);
        shareIs(plain, 0, 1, 1);
        FirstUmbrella silk = Towns.of("UW01N011");
        silk.open(0);
        shareIs(silk, 0, 1, 1);
        FirstUmbrella week = Towns.of("UW02W00N013");
        week.open(0);
        shareIs(week, 0, 0, 1);
        shareIs(week, 1, 0, 1);
        FirstUmbrella kept = Towns.of("UW00N011");
        kept.open(0);
        kept.hour();
        shareIs(kept, 0, 0, 1);
    }

    private static void nothingIsChanged() {
        FirstUmbrella x = Towns.of("UW02W11W23N015N105N123");
        x.open(1);
        x.hour();
        x.seed(3);
        String ahead = Towns.picture(x);
        x.wet(1, 20);
        x.needs(20, 1);
        x.dry(1);
        x.asked(0);
        x.sent(0, 0);
        x.judge(4, 102000201302L);
        x.share(2, true);
        Check.due("asking changes nothing", Towns.picture(x), ahead);
        Check.due("nor the seed", x.seed(0), 3);
        Check.due("nor the acts", x.undo(), 1);
        Check.due("nor what was ahead", x.about(2), 0);
    }
}
