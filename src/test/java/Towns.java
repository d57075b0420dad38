/** Objects made ready for a test. */
final class Towns {
    private Towns() {
    }

    /** A new object whose town is this text. */
    static FirstUmbrella of(String text) {
        FirstUmbrella x = written(text);
        Check.due("town() of " + text, x.town() < 0 ? -1 : 0, 0);
        return x;
    }

    /** A new object with this text alone. */
    static FirstUmbrella written(String text) {
        FirstUmbrella x = new FirstUmbrella();
        write(x, text);
        return x;
    }

    static void write(FirstUmbrella x, String text) {
        for (int i = 0; i < text.length(); i++) {
            x.write(text.charAt(i));
        }
    }

    /** All that can be read of an object without asking what is ahead: some 60 calls. */
    static String picture(FirstUmbrella x) {
        StringBuilder all = new StringBuilder();
        for (int what = 0; what <= 10; what++) {
            all.append(x.about(what)).append(' ');
        }
        for (int i = 0; i < x.about(0); i++) {
            all.append("| walker ").append(x.walker(i, 0)).append(x.walker(i, 1)).append(x.walker(i, 2)).append(' ');
        }
        for (int i = 0; i < x.about(1); i++) {
            all.append("| need ").append(x.need(i, 0)).append(x.need(i, 1)).append(x.need(i, 2)).append(x.need(i, 3));
        }
        for (int i = 0; i < 6; i++) {
            all.append("| street ").append(x.street(i, 0)).append(' ').append(x.street(i, 1)).append(' ');
            all.append(x.street(i, 2));
        }
        return all.toString();
    }
}
