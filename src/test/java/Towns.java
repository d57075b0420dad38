/** Objects made ready for a test. */
final class Towns {
    private Towns() {
    }

    /** A new object whose town is this text. */
    static FirstUmbrella of(String text) {
        FirstUmbrella x = written(text);
        Check.due("town() of " + text, x.town() < 0 ? -1 : 0, 0);
        return x;
    }

    /** A new object with this text alone. */
    static FirstUmbrella written(String text) {
        FirstUmbrella x = new FirstUmbrella();
        write(x, text);
        return x;
    }

    static void write(FirstUmbrella x, String text) {
        for (int i = 0; i < text.length(); i++) {
            x.write(text.charAt(i));
        }
    }

    static void hours(FirstUmbrella x, int n) {
        for (int i = 0; i < n; i++) {
            x.hour();
        }
    }

    /** All that can be read of an object without asking what is ahead: some 60 calls. */
    static String picture(FirstUmbrella x) {
        StringBuilder all = new StringBuilder();
        for (int what = 0; what <= 10; what++) {
            all.append(x.about(what)).append(' ');
        }
        for (int i = 0; i < x.about(0); i++) {
            all.append("| walker ").append(x.walker(i, 0)).append(x.walker(i, 1)).append(x.walker(i, 2)).append(' ');
        }
        for (int i = 0; i < x.about(1); i++) {
            all.append("| need ").append(x.need(i, 0)).append(x.need(i, 1)).append(x.need(i, 2)).append(x.need(i, 3));
        }
        for (int i = 0; i < 6; i++) {
            all.append("| street ").append(x.street(i, 0)).append(' ').append(x.street(i, 1)).append(' ');
            all.append(x.street(i, 2));
        }
        return all.toString();
    }

    /**
     * All that an object shows, also by calls that change it: what is told, what is ahead, all that can be undone, both
     * slots, the text. Some 290 calls, and the object is used up.
     */
    static String whole(FirstUmbrella x) {
        StringBuilder all = new StringBuilder(picture(x));
        all.append("| ahead ").append(x.needs(9, 0)).append(' ').append(x.needs(20, 0)).append(' ').append(x.needs(20, 1));
        all.append(' ').append(x.asked(0)).append(' ').append(x.wet(0, 20)).append(' ').append(x.wet(5, 20));
        all.append("| felt ").append(x.may(0)).append(' ').append(x.may(1));
        all.append("| seed ").append(x.seed(0));
        for (int left = x.undo(); left >= 0; left = x.undo()) {
            all.append("| undone ").append(left).append(' ').append(shortly(x));
        }
        for (int slot = 0; slot < 2; slot++) {
            all.append("| slot ").append(x.again(slot)).append(' ').append(shortly(x));
            for (int i = 0; i < 6; i++) {
                all.append(' ').append(x.street(i, 0)).append(' ').append(x.street(i, 1));
            }
            all.append(' ').append(x.about(5)).append(' ').append(x.about(7));
        }
        all.append("| text ").append(x.fault()).append(' ').append(x.town()).append(' ').append(shortly(x));
        return all.append(' ').append(x.wipe()).toString();
    }

    private static String shortly(FirstUmbrella x) {
        StringBuilder all = new StringBuilder();
        all.append(x.about(2)).append(' ').append(x.about(3)).append(' ').append(x.about(4)).append(' ');
        all.append(x.about(6)).append(' ');
        for (int i = 0; i < 5; i++) {
            all.append(x.walker(i, 0));
        }
        return all.toString();
    }
}
