/** Promises 1 to 9: a new object, the text, the town and what is told of it. */
public final class TownTest {
    private TownTest() {
    }

    public static void main(String[] args) {
        newObject();
        writeAndWipe();
        faultOfHeadAndThings();
        faultOfTooMany();
        townIsMade();
        townMadeAnew();
        townRefused();
        aboutTells();
        walkerTells();
        needTells();
        streetTells();
        Check.end();
    }

    private static void newObject() {
        FirstUmbrella x = new FirstUmbrella();
        for (int what = 0; what <= 10; what++) {
            Check.due("new: about(" + what + ")", x.about(what), 0);
        }
        for (int s = 0; s < 6; s++) {
            Check.due("new: street(s, 0)", x.street(s, 0), 0);
            Check.due("new: street(s, 1)", x.street(s, 1), 0);
            Check.due("new: street(s, 2)", x.street(s, 2), 0);
        }
        Check.due("new: undo()", x.undo(), -3);
        Check.due("new: again(0)", x.again(0), -3);
        Check.due("new: again(1)", x.again(1), -3);
        Check.due("new: unfeel()", x.unfeel(), 0);
        Check.due("new: seed(1)", x.seed(1), 0);
    }

    private static void writeAndWipe() {
        FirstUmbrella x = new FirstUmbrella();
        Check.due("write(-1)", x.write(-1), -2);
        Check.due("write(256)", x.write(256), -2);
        Check.due("write(MIN)", x.write(Integer.MIN_VALUE), -2);
        Check.due("length after refusals", x.about(10), 0);
        Check.due("write(0)", x.write(0), 1);
        Check.due("write(255)", x.write(255), 2);
        for (int i = 3; i <= 48; i++) {
            Check.due("write to " + i, x.write('U'), i);
        }
        Check.due("write when full", x.write('U'), -4);
        Check.due("a bad letter is told ahead of full", x.write(256), -2);
        Check.due("full", x.about(10), 48);
        Check.due("wipe()", x.wipe(), 48);
        Check.due("wipe() again", x.wipe(), 0);
        Check.due("after wipe()", x.about(10), 0);
        Check.due("write behind wipe()", x.write('U'), 1);
        Check.due("the first byte is new", x.fault(), -9);
        x.wipe();
        Towns.write(x, "UW00N000");
        x.wipe();
        Towns.write(x, "UW0");
        Check.due("what was wiped is no part of the text", x.fault(), 3);
        Towns.write(x, "0N00");
        Check.due("nor further behind", x.fault(), 7);
    }

    private static void faultIs(String text, int due) {
        Check.due("fault() of \"" + text + "\"", Towns.written(text).fault(), due);
    }

    private static void faultOfHeadAndThings() {
        faultIs("", 0);
        faultIs("U", -9);
        faultIs("u", 0);
        faultIs("V", 0);
        faultIs("W00", 0);
        faultIs("UU", 1);
        faultIs("Uw00", 1);
        faultIs("UW", 2);
        faultIs("UW0", 3);
        faultIs("UW00", -9);
        faultIs("UW53", -9);
        faultIs("UW60", 2);
        faultIs("UW/0", 2);
        faultIs("UW:0", 2);
        faultIs("UW04", 3);
        faultIs("UW0/", 3);
        faultIs("UW000", 4);
        faultIs("UN", 2);
        faultIs("UN0", 3);
        faultIs("UN00", 4);
        faultIs("UN000", -9);
        faultIs("UN529", -9);
        faultIs("UN600", 2);
        faultIs("UN/00", 2);
        faultIs("UN030", 3);
        faultIs("UN0/0", 3);
        faultIs("UN00:", 4);
        faultIs("UN00/", 4);
        faultIs("UN010", 4);
        faultIs("UN011", -9);
        faultIs("UN019", -9);
        faultIs("UN01:", 4);
        faultIs("UN020", -9);
        faultIs("UN000W13N311W00", -9);
        faultIs("UN000W13N310W00", 11);
        faultIs("UW6", 2);
        faultIs("UW00\u00ff", 4);
        faultIs("UW00\u0000", 4);
    }

    private static void faultOfTooMany() {
        faultIs("UW00W00W00W00W00", -9);
        faultIs("UW00W00W00W00W00W", 16);
        faultIs("UW00W00W00W00W00W00", 16);
        faultIs("UN000N000N000N000N000", -9);
        faultIs("UN000N000N000N000N000N", 21);
        faultIs("UW00W00W00W00W00N000N000N000N000N000", -9);
        faultIs("UW00W00W00W00W00N000N000N000N000N000U", 36);
        faultIs("UN000N000N000N000N000W00W00W00W00W00", -9);
        faultIs("UW00N000W00N000W00N000W00N000W00N000W00", 36);
        faultIs("UW00N000W00N000W00N000W00N000N000N000", 33);
    }

    private static void townIsMade() {
        Check.due("town() of U", Towns.written("U").town(), 0);
        Check.due("town() of walkers", Towns.written("UW00W10").town(), 20);
        Check.due("town() of needs", Towns.written("UN000N000N000").town(), 3);
        Check.due("town() of all", Towns.written("UW00W00W00W00W00N000N000N000N000N000").town(), 55);
        FirstUmbrella x = Towns.of("UW21N315");
        Check.due("the text stays", x.about(10), 8);
        Check.due("the text stays without fault", x.fault(), -9);
        x.wipe();
        Check.due("the town stays without its text", x.about(0), 1);
        Towns.write(x, "U");
        Check.due("town() of a shorter text", x.town(), 0);
        x.wipe();
        Towns.write(x, "UW21");
        Check.due("bytes that were wiped make no need", x.town(), 10);
        Check.due("its walker", x.walker(0, 0), 2);
    }

    private static void townMadeAnew() {
        FirstUmbrella x = Towns.of("UW02W31N006N015N500N020");
        x.feel(1, 2, 1);
        x.seed(77);
        x.open(0);
        x.open(1);
        x.hour();
        x.keep(0);
        x.keep(1);
        String first = Towns.picture(Towns.of("UW02W31N006N015N500N020"));
        Check.due("town() anew", x.town(), 24);
        x.unfeel();
        Check.due("a town made anew is as a new one", Towns.picture(x), first);
        Check.due("no acts are left", x.undo(), -3);
        Check.due("slot 0 is gone", x.again(0), -3);
        Check.due("slot 1 is gone", x.again(1), -3);
        Check.due("the seed stays", x.seed(0), 77);
        x.feel(1, 2, 1);
        x.wipe();
        Towns.write(x, "UN529");
        Check.due("another town", x.town(), 1);
        Check.due("what is felt stays", x.about(9), 1);
        Check.due("no walkers are left", x.about(0), 0);
        Check.due("the old walker is unknown", x.walker(0, 0), -1);
        Check.due("the new need", x.need(0, 0) * 100 + x.need(0, 1) * 10 + x.need(0, 2), 529);
    }

    private static void townRefused() {
        FirstUmbrella x = Towns.of("UW02N015");
        x.open(0);
        x.hour();
        x.keep(1);
        x.seed(5);
        x.feel(1, 2, 1);
        x.write('N');
        String ahead = Towns.picture(x);
        Check.due("town() with a fault", x.town(), -3);
        x.wipe();
        Check.due("town() without a text", x.town(), -3);
        Towns.write(x, "UW02N015N");
        Check.due("a refused town() changes nothing", Towns.picture(x), ahead);
        Check.due("the slot is kept", x.again(1), 1);
        Check.due("the seed is kept", x.seed(0), 5);
        FirstUmbrella y = Towns.of("UW02");
        y.open(0);
        y.wipe();
        y.town();
        Check.due("acts are kept", y.undo(), 0);
    }

    private static void aboutTells() {
        FirstUmbrella x = Towns.of("UW00W00W33N005N311N520");
        x.open(1);
        x.open(2);
        Check.due("about(0)", x.about(0), 3);
        Check.due("about(1)", x.about(1), 3);
        Check.due("about(2)", x.about(2), 0);
        Check.due("about(3)", x.about(3), 6);
        Check.due("about(4)", x.about(4), 1 + 4 + 8 + 16);
        Check.due("about(5) of one open", x.about(5), 0);
        x.open(0);
        Check.due("about(5) of two open", x.about(5), 1);
        Check.due("about(6) ahead of an hour", x.about(6), 0);
        x.hour();
        Check.due("about(2) behind an hour", x.about(2), 1);
        Check.due("about(6)", x.about(6), 2 + 4);
        Check.due("about(7)", x.about(7), 1);
        Check.due("about(8)", x.about(8), 4);
        x.feel(0, 0, 0);
        x.feel(0, 0, 0);
        Check.due("about(9)", x.about(9), 2);
        Check.due("about(10)", x.about(10), 22);
        Check.due("about(-1)", x.about(-1), -2);
        Check.due("about(11)", x.about(11), -2);
        Check.due("about(MAX)", x.about(Integer.MAX_VALUE), -2);
    }

    private static void walkerTells() {
        FirstUmbrella x = Towns.of("UW51W20W13");
        Check.due("walker(0, 0)", x.walker(0, 0), 5);
        Check.due("walker(0, 1)", x.walker(0, 1), 1);
        Check.due("walker(0, 2)", x.walker(0, 2), 0);
        Check.due("walker(2, 0)", x.walker(2, 0), 1);
        Check.due("walker(2, 1)", x.walker(2, 1), 3);
        x.open(2);
        x.walk(0, false);
        Check.due("walker(2, 2)", x.walker(2, 2), 1);
        Check.due("walker(1, 2)", x.walker(1, 2), 0);
        Check.due("a walker that walked", x.walker(0, 0), 4);
        Check.due("walker(3, 0)", x.walker(3, 0), -1);
        Check.due("walker(-1, 0)", x.walker(-1, 0), -1);
        Check.due("unknown is told ahead of bad", x.walker(3, 3), -1);
        Check.due("walker(0, 3)", x.walker(0, 3), -2);
        Check.due("walker(0, -1)", x.walker(0, -1), -2);
    }

    private static void needTells() {
        FirstUmbrella x = Towns.of("UW00N208N017N520");
        Check.due("need(0, 0)", x.need(0, 0), 2);
        Check.due("need(0, 1)", x.need(0, 1), 0);
        Check.due("need(0, 2)", x.need(0, 2), 8);
        Check.due("need(1, 0)", x.need(1, 0), 0);
        Check.due("need(1, 1)", x.need(1, 1), 1);
        Check.due("need(1, 2)", x.need(1, 2), 7);
        Check.due("need(2, 1)", x.need(2, 1), 2);
        Check.due("need(2, 3) open", x.need(2, 3), 0);
        x.hour();
        Check.due("need(2, 3) kept", x.need(2, 3), 1);
        x.walk(0, true);
        x.walk(0, true);
        x.open(0);
        x.hour();
        Check.due("need(0, 3) broken", x.need(0, 3), 2);
        Check.due("need(3, 0)", x.need(3, 0), -1);
        Check.due("need(-1, 0)", x.need(-1, 0), -1);
        Check.due("unknown is told ahead of bad", x.need(3, 4), -1);
        Check.due("need(0, 4)", x.need(0, 4), -2);
        Check.due("need(0, -1)", x.need(0, -1), -2);
    }

    private static void streetTells() {
        FirstUmbrella x = Towns.of("UW42W40W13");
        x.open(0);
        x.open(1);
        x.open(2);
        Check.due("street(4, 2)", x.street(4, 2), 2);
        Check.due("street(1, 2)", x.street(1, 2), 1);
        Check.due("street(0, 2) beside a bishop's", x.street(0, 2), 0);
        Check.due("street(4, 1)", x.street(4, 1), 7);
        Check.due("street(1, 1)", x.street(1, 1), 0);
        Check.due("street(4, 0)", x.street(4, 0), 0);
        x.hour();
        Check.due("street(4, 0) behind hail", x.street(4, 0), 2);
        Check.due("street(4, 1) an hour less", x.street(4, 1), 6);
        Check.due("street(2, 0) beside a bishop's", x.street(2, 0), 1);
        Check.due("street(3, 0)", x.street(3, 0), 0);
        Check.due("street(6, 0)", x.street(6, 0), -1);
        Check.due("street(-1, 0)", x.street(-1, 0), -1);
        Check.due("unknown is told ahead of bad", x.street(6, 3), -1);
        Check.due("street(0, 3)", x.street(0, 3), -2);
        Check.due("street(5, -1)", x.street(5, -1), -2);
    }
}
