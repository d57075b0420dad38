/** Promises 29 and 30: kept and gone on from. */
public final class SlotsTest {
    private SlotsTest() {
    }

    public static void main(String[] args) {
        keptAndGoneOnFrom();
        slotsAreTwo();
        whatIsNotKept();
        refused();
        Check.end();
    }

    private static void keptAndGoneOnFrom() {
        FirstUmbrella x = Towns.of("UW02W11W30N015N102N323");
        x.open(0);
        x.walk(2, true);
        x.hour();
        x.open(1);
        x.hour();
        Check.due("keep(0)", x.keep(0), 2);
        Check.due("keep() is no act and leaves them", x.about(8), 5);
        FirstUmbrella same = Towns.of("UW02W11W30N015N102N323");
        same.open(0);
        same.walk(2, true);
        same.hour();
        same.open(1);
        same.hour();
        same.keep(1);
        same.again(1);
        String then = Towns.picture(same);
        x.shut(0);
        x.shut(1);
        x.walk(2, false);
        x.hour();
        x.hour();
        Check.due("again(0)", x.again(0), 2);
        Check.due("all is as it was kept", Towns.picture(x), then);
        Check.due("no acts", x.about(8), 0);
        Check.due("nothing is undone", x.undo(), -3);
        x.hour();
        Check.due("one act more", x.about(8), 1);
        Check.due("again(0) once more", x.again(0), 2);
        Check.due("THE HOUR", x.about(2), 2);
    }

    private static void slotsAreTwo() {
        FirstUmbrella x = Towns.of("UW00");
        x.hour();
        x.keep(0);
        x.hour();
        Check.due("again(1) of an empty one", x.again(1), -3);
        Check.due("that changes nothing", x.about(8), 2);
        x.keep(1);
        x.open(0);
        Check.due("again(0)", x.again(0), 1);
        Check.due("shut", x.about(3), 0);
        Check.due("again(1)", x.again(1), 2);
        x.open(0);
        x.hour();
        Check.due("kept over", x.keep(0), 3);
        x.shut(0);
        x.hour();
        Check.due("again(0)", x.again(0), 3);
        Check.due("open", x.about(3), 1);
        Check.due("wet", x.street(0, 0), 1);
    }

    private static void whatIsNotKept() {
        FirstUmbrella x = Towns.of("UW00");
        x.keep(0);
        x.feel(1, 1, 1);
        x.seed(8);
        x.write('N');
        x.again(0);
        Check.due("felt stays", x.about(9), 1);
        Check.due("the text stays", x.about(10), 5);
        Check.due("the seed stays", x.seed(0), 8);
        FirstUmbrella y = new FirstUmbrella();
        Check.due("without a town: again(0)", y.again(0), -3);
        y.hour();
        Check.due("without a town: keep(0)", y.keep(0), 1);
        Check.due("without a town: again(0)", y.again(0), 1);
    }

    private static void refused() {
        FirstUmbrella x = Towns.of("UW00");
        Check.due("keep(-1)", x.keep(-1), -1);
        Check.due("keep(2)", x.keep(2), -1);
        Check.due("again(2)", x.again(2), -1);
        Check.due("again(-1)", x.again(-1), -1);
        Check.due("again(32)", x.again(32), -1);
        Check.due("nothing was kept", x.again(0), -3);
        Check.due("nothing was kept", x.again(1), -3);
    }
}
