/** Counts and prints answers that are not the ones due. */
final class Due {
    static final long LONG = 4000000000000000000L;

    private static int asked = 0;
    private static int wrong = 0;
    private static String place = "";

    private Due() {
    }

    /** What is due from here on is due by this place of the document. */
    static void by(String sentence) {
        place = sentence + ": ";
    }

    static void due(String call, long got, long want) {
        asked++;
        if (got != want) {
            wrong++;
            if (wrong <= 50) {
                System.out.println(place + call + " answered " + got + ", due is " + want);
            }
        }
    }

    /** The refusal of a call that answers a long. */
    static void refused(String call, long got, int number) {
        due(call, got, number - LONG);
    }

    static boolean isWrong() {
        return wrong != 0;
    }

    static void end() {
        System.out.println(wrong == 0
            ? "all " + asked + " answers are as due"
            : wrong + " of " + asked + " answers are not as due");
        if (wrong != 0) {
            System.exit(1);
        }
    }
}
