/** Promises 22 to 24: what is felt of one umbrella, and which it may be. */
public final class FeltTest {
    private FeltTest() {
    }

    public static void main(String[] args) {
        feelCounts();
        feelRefuses();
        unfeelForgets();
        mayByStreet();
        mayByHour();
        mayRefusesAndIsAlone();
        Check.end();
    }

    private static void feelCounts() {
        FirstUmbrella x = new FirstUmbrella();
        Check.due("feel(0, 0, 0)", x.feel(0, 0, 0), 1);
        Check.due("feel(5, 9, 1)", x.feel(5, 9, 1), 2);
        Check.due("the same once more", x.feel(5, 9, 1), 3);
        Check.due("and its contrary", x.feel(5, 9, 0), 4);
        Check.due("fifth", x.feel(1, 1, 0), 5);
        Check.due("sixth", x.feel(2, 1, 0), 6);
        Check.due("seventh", x.feel(3, 1, 0), -4);
        Check.due("bad is told ahead of full", x.feel(3, 10, 0), -2);
        Check.due("unknown is told ahead of bad", x.feel(6, 10, 0), -1);
        Check.due("six are felt", x.about(9), 6);
    }

    private static void feelRefuses() {
        FirstUmbrella x = new FirstUmbrella();
        Check.due("feel(6, 0, 0)", x.feel(6, 0, 0), -1);
        Check.due("feel(-1, 0, 0)", x.feel(-1, 0, 0), -1);
        Check.due("feel(0, -1, 0)", x.feel(0, -1, 0), -2);
        Check.due("feel(0, 10, 0)", x.feel(0, 10, 0), -2);
        Check.due("feel(0, 0, -1)", x.feel(0, 0, -1), -2);
        Check.due("feel(0, 0, 2)", x.feel(0, 0, 2), -2);
        Check.due("refused ones are not felt", x.about(9), 0);
        Check.due("all may be", x.may(0), 144);
    }

    private static void unfeelForgets() {
        FirstUmbrella x = new FirstUmbrella();
        Check.due("unfeel() of none", x.unfeel(), 0);
        x.feel(2, 0, 1);
        x.feel(2, 7, 1);
        Check.due("unfeel()", x.unfeel(), 2);
        Check.due("about(9)", x.about(9), 0);
        Check.due("may(0)", x.may(0), 144);
        x.feel(2, 0, 0);
        Check.due("what comes behind is told as it is", x.may(0), 108);
    }

    private static void mayIs(int[] felt, int many, int first) {
        FirstUmbrella x = new FirstUmbrella();
        StringBuilder told = new StringBuilder();
        for (int i = 0; i + 2 < felt.length; i += 3) {
            x.feel(felt[i], felt[i + 1], felt[i + 2]);
            told.append(felt[i]).append(felt[i + 1]).append(felt[i + 2]).append(' ');
        }
        Check.due("may(0) by " + told, x.may(0), many);
        Check.due("may(1) by " + told, x.may(1), first);
    }

    private static void mayByStreet() {
        mayIs(new int[] {}, 144, 1);
        mayIs(new int[] {2, 0, 1}, 36, 21);
        mayIs(new int[] {2, 0, 0}, 108, 1);
        mayIs(new int[] {0, 0, 0}, 114, 11);
        mayIs(new int[] {5, 0, 1}, 30, 51);
        mayIs(new int[] {2, 0, 1, 3, 0, 1}, 12, 321);
        mayIs(new int[] {2, 0, 1, 4, 0, 1}, 6, 331);
        mayIs(new int[] {2, 0, 1, 5, 0, 1}, 0, -9);
        mayIs(new int[] {0, 0, 1, 1, 0, 1, 2, 0, 0}, 6, 301);
    }

    private static void mayByHour() {
        mayIs(new int[] {2, 6, 1}, 7, 126);
        mayIs(new int[] {2, 7, 1}, 0, -9);
        mayIs(new int[] {2, 9, 0}, 144, 1);
        mayIs(new int[] {2, 3, 1, 2, 4, 0}, 5, 24);
        mayIs(new int[] {2, 1, 0, 2, 0, 1}, 4, 21);
        mayIs(new int[] {2, 5, 1, 2, 6, 0}, 5, 26);
        mayIs(new int[] {2, 0, 1, 2, 0, 0}, 0, -9);
        mayIs(new int[] {0, 5, 1}, 1 + 2 + 6 + 2, 6);
    }

    private static void mayRefusesAndIsAlone() {
        FirstUmbrella x = Towns.of("UW02W20");
        x.open(0);
        x.open(1);
        x.hour();
        x.feel(2, 0, 1);
        Check.due("the town is nothing to it", x.may(0), 36);
        Check.due("may(2)", x.may(2), -2);
        Check.due("may(-1)", x.may(-1), -2);
        x.undo();
        Check.due("felt is no act", x.about(9), 1);
    }
}
