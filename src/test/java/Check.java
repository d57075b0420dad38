/** Counts the answers that are not as due; every test ends with end(). */
final class Check {
    private static int asked = 0;
    private static int wrong = 0;

    private Check() {
    }

    static void due(String call, long got, long due) {
        asked++;
        if (got != due) {
            wrong++;
            System.out.println(call + " answered " + got + ", due is " + due);
        }
    }

    /** What a promise of the document says, told by the promise's number. */
    static void due(int promise, String sentence, long got, long due) {
        due("Promise " + promise + ": " + sentence, got, due);
    }

    static void due(int promise, String sentence, String got, String due) {
        due("Promise " + promise + ": " + sentence, got, due);
    }

    static void due(String call, String got, String due) {
        asked++;
        if (!got.equals(due)) {
            wrong++;
            System.out.println(call + " answered\n  " + got + ", due is\n  " + due);
        }
    }

    static void end() {
        System.out.println(asked + " answers looked at, " + wrong + " not as due");
        if (wrong != 0 || asked == 0) {
            System.exit(1);
        }
    }
}
