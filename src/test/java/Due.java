/** Compares answers with those that are due, and ends a test with exit code 1 if one was not. */
final class Due {
    private static int wrong = 0;
    private static int asked = 0;
    private static int sentences = 0;
    private static String about = "";

    private Due() {
    }

    /** What follows tests this sentence of the document, until the next one is named. */
    static void of(String sentence) {
        sentences++;
        about = "'" + sentence + "': ";
    }

    static void is(String what, long got, long want) {
        asked++;
        if (got != want) {
            wrong++;
            // A broken promise may break thousands of answers; the first ones tell enough.
            if (wrong <= 20) {
                System.out.println(about + what + " answered " + got + ", due is " + want);
            }
        }
    }

    static void end(String test) {
        String of = sentences == 0 ? "" : sentences + " sentences, ";
        System.out.println(test + ": " + of + asked + " answers, " + wrong + " not as due");
        if (wrong != 0) {
            System.exit(1);
        }
    }
}
