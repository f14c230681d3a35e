/** Counts the answers that are not as due and ends a test with the exit code that is due. */
final class Check {
    private static int wrong = 0;
    private static int seen = 0;
    private static int seenBefore = 0;
    private static String sentence = "";

    private Check() {
    }

    /** What follows, up to the next sentence, is the test of this one. */
    static void sentence(String words) {
        endSentence();
        sentence = "\"" + words + "\": ";
    }

    static void due(String call, Object got, Object want) {
        seen++;
        if (!got.equals(want)) {
            wrong++;
            System.out.println(sentence + call + " answered " + got + ", due is " + want);
        }
    }

    static void finish() {
        endSentence();
        System.out.println(seen + " answers looked at, " + wrong + " not as due");
        if (wrong != 0 || seen == 0) {
            System.exit(1);
        }
    }

    // A loop that runs over nothing would else pass for a test.
    private static void endSentence() {
        if (!sentence.isEmpty() && seen == seenBefore) {
            wrong++;
            System.out.println(sentence + "nothing was looked at");
        }
        seenBefore = seen;
    }
}
