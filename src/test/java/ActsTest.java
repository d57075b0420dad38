/** Promises 10 to 14, and the rain, the lasting and the needs that they change. */
public final class ActsTest {
    private ActsTest() {
    }

    public static void main(String[] args) {
        opened();
        openedGingham();
        shutDown();
        shutSilk();
        bishopWetsBeside();
        walked();
        hourAndWetness();
        lastingEnds();
        hay();
        beans();
        cars();
        undone();
        undoneAtMostFourteen();
        refusalsChangeNothing();
        Check.end();
    }

    private static void hours(FirstUmbrella x, int n) {
        for (int i = 0; i < n; i++) {
            x.hour();
        }
    }

    private static void opened() {
        FirstUmbrella x = Towns.of("UW20W20W30");
        Check.due("open(1)", x.open(1), 1);
        Check.due("open(0)", x.open(0), 2);
        Check.due("open(2)", x.open(2), 1);
        Check.due("open(0) when open", x.open(0), -3);
        Check.due("open(3)", x.open(3), -1);
        Check.due("open(-1)", x.open(-1), -1);
        Check.due("rain", x.about(4), 12);
        Check.due("hail", x.about(5), 4);
        Check.due("plain ones leave nothing", x.street(2, 1), 0);
    }

    private static void openedGingham() {
        FirstUmbrella x = Towns.of("UW22W22W21");
        x.open(0);
        Check.due("gingham lasts", x.street(2, 1), 7);
        hours(x, 3);
        Check.due("lasts less", x.street(2, 1), 4);
        x.open(1);
        Check.due("another lasts at least 7", x.street(2, 1), 7);
        x.shut(0);
        x.shut(1);
        Check.due("it lasts when shut", x.street(2, 1), 7);
        x.walk(0, true);
        Check.due("it stays in its street", x.street(3, 1), 0);
        hours(x, 6);
        Check.due("rain in the last hour", x.about(4), 4);
        x.hour();
        Check.due("no rain behind it", x.about(4), 0);
    }

    private static void shutDown() {
        FirstUmbrella x = Towns.of("UW20W20W30");
        x.open(0);
        x.open(1);
        Check.due("shut(0)", x.shut(0), 1);
        Check.due("shut(1)", x.shut(1), 0);
        Check.due("shut(1) when shut", x.shut(1), -3);
        Check.due("shut(3)", x.shut(3), -1);
        Check.due("shut(-1)", x.shut(-1), -1);
        Check.due("no rain", x.about(4), 0);
    }

    private static void shutSilk() {
        FirstUmbrella x = Towns.of("UW21W22W10");
        x.open(0);
        Check.due("silk open leaves nothing", x.street(2, 1), 0);
        x.shut(0);
        Check.due("silk shut", x.street(2, 1), 1);
        Check.due("hour of the shower", x.hour(), 4);
        Check.due("the shower is over", x.hour(), 0);
        x.open(1);
        x.open(0);
        x.shut(0);
        Check.due("at least: what lasts longer stays", x.street(2, 1), 7);
        x.open(2);
        x.shut(2);
        Check.due("plain shut", x.street(1, 1), 0);
    }

    private static void bishopWetsBeside() {
        FirstUmbrella x = Towns.of("UW03W53W23W43");
        x.open(0);
        Check.due("a bishop's in 0", x.about(4), 1 + 2);
        x.shut(0);
        Check.due("a bishop's shut", x.about(4), 0);
        x.open(1);
        Check.due("a bishop's in 5", x.about(4), 16 + 32);
        x.shut(1);
        x.open(2);
        x.open(3);
        Check.due("two bishops'", x.about(4), 2 + 4 + 8 + 16 + 32);
        Check.due("no hail between them", x.about(5), 0);
        x.hour();
        Check.due("wet once", x.street(3, 0), 1);
    }

    private static void walked() {
        FirstUmbrella x = Towns.of("UW40W00");
        Check.due("walk up", x.walk(0, true), 5);
        Check.due("walk up at the end", x.walk(0, true), -3);
        Check.due("walk down", x.walk(0, false), 4);
        Check.due("walk down at the end", x.walk(1, false), -3);
        x.open(1);
        Check.due("walk when open", x.walk(1, true), -3);
        Check.due("walk(2, true)", x.walk(2, true), -1);
        Check.due("walk(-1, false)", x.walk(-1, false), -1);
        Check.due("its street", x.walker(0, 0), 4);
        x.open(0);
        Check.due("rain where it walked", x.about(4), 16 + 1);
        Check.due("three acts and one", x.about(8), 4);
    }

    private static void hourAndWetness() {
        FirstUmbrella x = Towns.of("UW10W10W10W43");
        Check.due("a dry hour", x.hour(), 0);
        x.open(0);
        x.open(3);
        Check.due("an hour", x.hour(), 2 + 8 + 16 + 32);
        Check.due("wet 1", x.street(1, 0), 1);
        x.open(1);
        x.hour();
        Check.due("with hail 2", x.street(1, 0), 3);
        x.open(2);
        x.hour();
        Check.due("with three 2", x.street(1, 0), 5);
        Check.due("beside a bishop's", x.street(5, 0), 3);
        Check.due("THE HOUR", x.about(2), 4);
        Check.due("acts", x.about(8), 8);
    }

    private static void lastingEnds() {
        FirstUmbrella x = Towns.of("UW02");
        x.open(0);
        x.shut(0);
        hours(x, 9);
        Check.due("wet for seven hours", x.street(0, 0), 7);
        Check.due("nothing lasts less than 0", x.street(0, 1), 0);
    }

    private static void hay() {
        FirstUmbrella x = Towns.of("UW10N100N102N202");
        x.hour();
        Check.due("hay of hour 0 is kept", x.about(6), 1);
        x.open(0);
        x.hour();
        Check.due("hay is broken ahead of its hour", x.about(7), 2);
        Check.due("hay next door stays open", x.need(2, 3), 0);
        x.hour();
        Check.due("hay is kept in its hour", x.about(6), 1 + 4);
        hours(x, 2);
        Check.due("what is kept stays so", x.about(6), 1 + 4);
        Check.due("what is broken stays so", x.about(7), 2);
        FirstUmbrella y = Towns.of("UW10N100N101");
        y.open(0);
        y.hour();
        Check.due("hay is broken in its hour", y.about(7), 3);
        FirstUmbrella z = Towns.of("UW10N101");
        z.hour();
        z.open(0);
        z.hour();
        Check.due("rain in hour h breaks", z.about(7), 1);
    }

    private static void beans() {
        FirstUmbrella x = Towns.of("UW10W10N111N113N119");
        Check.due("beans ahead of an hour", x.about(6), 0);
        x.open(0);
        x.hour();
        Check.due("beans of 1", x.about(6), 1);
        x.open(1);
        x.hour();
        Check.due("beans of 3, by hail", x.about(6), 3);
        hours(x, 2);
        Check.due("wet 7", x.about(6), 3);
        x.hour();
        Check.due("wet 9", x.about(6), 7);
        Check.due("beans are never broken", x.about(7), 0);
        FirstUmbrella y = Towns.of("UW10N112");
        y.open(0);
        y.hour();
        y.shut(0);
        hours(y, 12);
        Check.due("beans wait", y.need(0, 3), 0);
        y.open(0);
        y.hour();
        Check.due("beans in all", y.need(0, 3), 1);
    }

    private static void cars() {
        FirstUmbrella x = Towns.of("UW10N120N122N123");
        x.hour();
        x.open(0);
        x.hour();
        Check.due("rain ahead of a car's hour", x.about(7), 0);
        x.hour();
        Check.due("rain in a car's hour", x.about(7), 2);
        x.shut(0);
        x.hour();
        Check.due("cars kept", x.about(6), 1 + 4);
        x.open(0);
        x.hour();
        Check.due("rain behind a car's hour", x.about(6), 1 + 4);
        Check.due("a broken car stays so", x.about(7), 2);
    }

    private static void undone() {
        String text = "UW02W41N101N012N420";
        FirstUmbrella x = Towns.of(text);
        String first = Towns.picture(x);
        x.open(0);
        x.hour();
        x.walk(1, false);
        x.open(1);
        x.shut(1);
        x.hour();
        Check.due("undo()", x.undo(), 5);
        Check.due("the hour is undone", x.about(2), 1);
        Check.due("what lasts is as it was", x.street(0, 1) * 10 + x.street(3, 1), 61);
        Check.due("undo()", x.undo(), 4);
        Check.due("silk is open", x.walker(1, 2), 1);
        Check.due("no shower", x.street(3, 1), 0);
        Check.due("undo()", x.undo(), 3);
        Check.due("undo()", x.undo(), 2);
        Check.due("walked back", x.walker(1, 0), 4);
        Check.due("undo()", x.undo(), 1);
        Check.due("needs are open", x.about(6) + x.about(7), 0);
        Check.due("not wet", x.street(0, 0), 0);
        Check.due("undo()", x.undo(), 0);
        Check.due("all is as it was", Towns.picture(x), first);
        Check.due("undo()", x.undo(), -3);
        Check.due("nothing is changed by that", x.about(8), 0);
    }

    private static void undoneAtMostFourteen() {
        FirstUmbrella x = Towns.of("UW00");
        hours(x, 20);
        Check.due("acts", x.about(8), 14);
        x.open(0);
        Check.due("acts still", x.about(8), 14);
        Check.due("undo()", x.undo(), 13);
        Check.due("the hour stays", x.about(2), 20);
        for (int left = 12; left >= 0; left--) {
            Check.due("undo()", x.undo(), left);
        }
        Check.due("seven are forgotten", x.about(2), 7);
        Check.due("undo() of none", x.undo(), -3);
        hours(x, 3);
        Check.due("undo()", x.undo(), 2);
        Check.due("the hour", x.about(2), 9);
    }

    private static void refusalsChangeNothing() {
        FirstUmbrella x = Towns.of("UW52W01W01N015");
        x.open(0);
        x.open(1);
        x.hour();
        String ahead = Towns.picture(x);
        Check.due("open(0)", x.open(0), -3);
        Check.due("open(9)", x.open(9), -1);
        Check.due("shut(2)", x.shut(2), -3);
        Check.due("shut(MIN)", x.shut(Integer.MIN_VALUE), -1);
        Check.due("shut(32)", x.shut(32), -1);
        Check.due("walk(0, false)", x.walk(0, false), -3);
        Check.due("walk(2, false)", x.walk(2, false), -3);
        Check.due("walk(7, false)", x.walk(7, false), -1);
        Check.due("refusals change nothing", Towns.picture(x), ahead);
    }
}
