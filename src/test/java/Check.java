/** Counts and prints the answers that are not the due ones. */
final class Check {
    private static int looked = 0;
    private static int wrong = 0;

    private Check() {
    }

    static void due(String call, long got, long want) {
        looked++;
        if (got != want) {
            wrong++;
            System.out.println(call + " answered " + got + ", due is " + want);
        }
    }

    static void holds(String what, boolean is) {
        looked++;
        if (!is) {
            wrong++;
            System.out.println("it does not hold: " + what);
        }
    }

    static void feed(NamesBack x, String text) {
        for (char sign : text.toCharArray()) {
            x.feed(sign);
        }
    }

    static int land(NamesBack x, String text) {
        feed(x, text);
        return x.land();
    }

    /** Ends the test: exit code 1 if an answer was wrong, or if none was looked at. */
    static void end(String test) {
        System.out.println(test + ": " + looked + " answers looked at, " + wrong + " wrong");
        if (wrong != 0 || looked == 0) {
            System.exit(1);
        }
    }
}
