/** Counts and prints the answers that are not the due ones. */
final class Check {
    private static int looked = 0;
    private static int wrong = 0;
    private static int sentences = 0;
    private static int lookedBefore = 0;
    private static String sentence = "";

    private Check() {
    }

    /** From now on answers are looked at for this sentence of the document; the one ahead must have had some. */
    static void sentence(String words) {
        endSentence();
        sentences++;
        sentence = words;
        lookedBefore = looked;
    }

    private static void endSentence() {
        if (sentences > 0 && looked == lookedBefore) {
            wrong++;
            System.out.println("nothing is looked at for: " + sentence);
        }
    }

    private static String ofSentence() {
        return sentence.isEmpty() ? "" : "   [" + sentence + "]";
    }

    static void due(String call, long got, long want) {
        looked++;
        if (got != want) {
            wrong++;
            System.out.println(call + " answered " + got + ", due is " + want + ofSentence());
        }
    }

    static void holds(String what, boolean is) {
        looked++;
        if (!is) {
            wrong++;
            System.out.println("it does not hold: " + what + ofSentence());
        }
    }

    static void feed(NamesBack x, String text) {
        for (char sign : text.toCharArray()) {
            x.feed(sign);
        }
    }

    static int land(NamesBack x, String text) {
        feed(x, text);
        return x.land();
    }

    /** Ends the test: exit code 1 if an answer was wrong, or if none was looked at. */
    static void end(String test) {
        endSentence();
        System.out.println(test + ": " + (sentences > 0 ? sentences + " sentences, " : "") + looked
                + " answers looked at, " + wrong + " wrong");
        if (wrong != 0 || looked == 0) {
            System.exit(1);
        }
    }
}
