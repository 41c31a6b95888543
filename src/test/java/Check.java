import java.util.function.IntToLongFunction;

/** What every test uses: compares answers, counts the wrong ones, ends with exit code 1 if there was one. */
final class Check {
    private static int wrong = 0;
    private static int made = 0;
    private static int madeAhead = 0;
    private static int sentences = 0;
    private static String sentence = "";

    private Check() {
    }

    /** The document's words that the next answers are held against; each wrong one is told with them. */
    static void sentence(String words) {
        endSentence();
        sentences++;
        sentence = "[" + words + "] ";
        madeAhead = made;
    }

    private static void endSentence() {
        if (sentences > 0) {
            holds("the sentence has answers of its own", made > madeAhead);
        }
    }

    static void due(String call, long got, long want) {
        made++;
        if (got != want) {
            wrong++;
            System.out.println(sentence + call + " answered " + got + ", due is " + want);
        }
    }

    static void holds(String what, boolean is) {
        made++;
        if (!is) {
            wrong++;
            System.out.println(sentence + "does not hold: " + what);
        }
    }

    /** Both ends are right; one below, one above and the farthest numbers are not. */
    static void bounds(String number, int least, int most, IntToLongFunction call, long right, long refused) {
        due(number + " " + least, call.applyAsLong(least), right);
        due(number + " " + most, call.applyAsLong(most), right);
        int[] outside = {least - 1, most + 1, Integer.MIN_VALUE, Integer.MAX_VALUE};
        for (int n : outside) {
            due(number + " " + n, call.applyAsLong(n), refused);
        }
    }

    static int wrongSoFar() {
        return wrong;
    }

    static void finish() {
        endSentence();
        System.out.println((sentences > 0 ? sentences + " sentences, " : "") + made + " answers, " + wrong + " wrong");
        if (wrong != 0 || made == 0) {
            System.exit(1);
        }
    }
}
