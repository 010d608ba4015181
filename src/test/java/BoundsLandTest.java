/** Each sentence that names a boundary, of THE TEXT, LANDS, SIZE, LONG, arms: Terms 1, promises 9 to 11. */
final class BoundsLandTest {
    private static final String DIGITS = "0123456789";
    /** 100 bytes, ten CLAUSES; with p under 9 all count: 9 * 9 + 10 of far. */
    private static final String TEN = "far 9 p<9;".repeat(9) + "far 10 p<9";

    private BoundsLandTest() {
    }

    public static void main(String[] args) {
        signs();
        textIsAHundred();
        textIsEmptyThen();
        clauses();
        numbers();
        blanks();
        signsTaken();
        signsTakenWithin();
        withinFour();
        faultIsTheFirst();
        faultIsTheEnd();
        faultOfAHundred();
        newestHolds();
        landsAreSix();
        faultOrFull();
        faultLeavesNothing();
        noLand();
        eitherAndBoth();
        testsOf99();
        sizes();
        longs();
        arms();
        told();
        Check.end("BoundsLandTest");
    }

    private static void fault(String text, int fault) {
        new Told().dueLand(text, -10 - fault);
    }

    private static void isLand(String text) {
        new Told().dueLand(text, 0);
    }

    private static void signs() {
        Check.sentence("A sign (0 .. 127) comes behind THE TEXT's: how many it has. BAD");
        Told x = new Told();
        x.dueAll(-2, "feed(-1)", "feed(128)", "feed(LOW)", "feed(HIGH)", "feed(359)", "feed(-153)").due("count(4)", 0);
        x.due("feed(0)", 1).due("feed(127)", 2).due("count(4)", 2);
    }

    private static void textIsAHundred() {
        Check.sentence("THE TEXT (bytes, 100 at most); FULL");
        Told x = new Told();
        for (int k = 1; k <= 100; k++) {
            x.due("feed(97)", k);
        }
        x.dueAll(-4, "feed(97)", "feed(0)", "feed(127)").due("count(4)", 100);
        Check.sentence("the first that a call's words name: BAD ahead of FULL");
        x.dueAll(-2, "feed(128)", "feed(-1)");
        Check.sentence("a LAND of 100 bytes is read to its end");
        Check.due("bytes", TEN.length(), 100);
        isLand(TEN);
        fault(TEN.substring(0, 99) + ";", 99);
        fault(TEN.substring(0, 99) + (char) 127, 99);
    }

    private static void textIsEmptyThen() {
        Check.sentence("THE TEXT, which is empty then");
        Told x = new Told().dueLand("arms 1", 0).due("count(4)", 0).due("land()", -10);
        x.feeds(TEN).due("count(4)", 100).due("land()", 1).due("count(4)", 0).due("feed(1)", 1);
        x.due("land()", -10).due("count(4)", 0).due("feed(1)", 1);
    }

    private static void clauses() {
        Check.sentence("CLAUSES, 1 to 10, with ; between");
        fault("", 0);
        isLand("arms 1");
        String nine = "arms 1" + ";arms 1".repeat(8);
        isLand(nine);
        isLand(nine + ";arms 1");
        fault(nine + ";", nine.length() + 1);
        fault(nine + ";arms 1;", nine.length() + 7);
        fault(nine + ";arms 1;arms 1", nine.length() + 7);
        fault(nine + ";arms 12;arms 1", nine.length() + 8);
        fault(TEN.substring(0, 99) + ";", 99);
        fault(";arms 1", 0);
        fault("arms 1;;arms 1", 7);
        fault("arms 1 ;arms 1", 6);
        Check.sentence("the first and the tenth of ten CLAUSES count");
        Told x = Told.places(1).lands("great 7 p=0" + ";arms 1".repeat(8) + ";great 3 p=0").due("of(0, 3)", 10);
        x.lands("arms 1" + ";arms 2".repeat(8) + ";arms 0").due("told(0)", 0);
    }

    private static void numbers() {
        Check.sentence("n 1 or 2 digits");
        for (String word : new String[] {"great ", "far "}) {
            int at = word.length();
            fault(word, at);
            fault(word + " p=1", at);
            fault(word + "p=1", at);
            isLand(word + "0 p=1");
            isLand(word + "9 p=1");
            isLand(word + "00 p=1");
            isLand(word + "99 p=1");
            fault(word + "100 p=1", at + 2);
            fault(word + "000 p=1", at + 2);
            fault(word + "-1 p=1", at);
            fault(word + "+1 p=1", at);
        }
        fault("arms ", 5);
        fault("arms ;", 5);
        isLand("arms 0");
        isLand("arms 00");
        isLand("arms 99");
        fault("arms 100", 7);
        fault("arms -1", 5);
        Check.sentence("a TEST: a number (1 or 2 digits)");
        fault("far 1 p<", 8);
        fault("far 1 p<;", 8);
        isLand("far 1 p<0");
        isLand("far 1 p<00");
        isLand("far 1 p<99");
        fault("far 1 p<100", 10);
        fault("far 1 p<-1", 8);
        Check.sentence("n, and a TEST's number: 0, 9, 10, 99");
        for (int n : new int[] {0, 1, 9, 10, 99}) {
            Told x = Told.places(1).lands("great " + n + " p=0").due("of(0, 3)", n);
            x.lands("arms " + n).due("told(0)", n);
            Told y = Told.places(2).runs("road(0, 1, 1)").lands("far " + n + " p=0").due("far(0, 1)", n + 1);
            y.lands("great 5 p<" + n + ";great 7 p>" + n).due("of(1, 3)", n > 1 ? 5 : n < 1 ? 7 : 0);
        }
        Told.places(1).lands("great 05 p=00").due("of(0, 3)", 5);
    }

    private static void blanks() {
        Check.sentence("one blank ahead of each part behind the word");
        fault("great", 5);
        fault("great1 p=1", 5);
        fault("great  1 p=1", 6);
        fault("great 1p=1", 7);
        fault("great 1  p=1", 8);
        fault("far1 p=1", 3);
        fault("far  1 p=1", 4);
        fault("far 1p=1", 5);
        fault("far 1  p=1", 6);
        fault("arms1", 4);
        fault("arms  1", 5);
        fault("arms 1 ", 6);
        fault(" arms 1", 0);
        fault("arms 1; arms 1", 7);
        fault("far 1 p =1", 7);
        fault("far 1 p= 1", 8);
        fault("far 1 p=1 ", 9);
        fault("far 1 p=1 &p=1", 9);
        fault("far 1 ( p=1)", 7);
        fault("far 1 ! p=1", 7);
        fault("far\t1 p=1", 3);
    }

    /** Behind a beginning each of the signs 0 to 127 ends a LAND, or goes on to one, or is the FAULT. */
    private static void taken(String beginning, String ends, String goesOn) {
        int at = beginning.length();
        for (int sign = 0; sign < 128; sign++) {
            long due = ends.indexOf(sign) >= 0 ? 0 : goesOn.indexOf(sign) >= 0 ? -11 - at : -10 - at;
            fault(beginning + (char) sign, (int) (-10 - due));
        }
    }

    private static void signsTaken() {
        Check.sentence("The FAULT: the place of the first byte with which none begins so: words, numbers");
        taken("", "", "gfa");
        taken("g", "", "r");
        taken("gr", "", "e");
        taken("gre", "", "a");
        taken("grea", "", "t");
        taken("great", "", " ");
        taken("f", "", "a");
        taken("fa", "", "r");
        taken("far", "", " ");
        taken("a", "", "r");
        taken("ar", "", "m");
        taken("arm", "", "s");
        taken("arms", "", " ");
        taken("great ", "", DIGITS);
        taken("great 1", "", " " + DIGITS);
        taken("great 12", "", " ");
        taken("arms ", DIGITS, "");
        taken("arms 1", DIGITS, ";");
        taken("arms 12", "", ";");
        taken("arms 12;", "", "gfa");
    }

    private static void signsTakenWithin() {
        Check.sentence("The FAULT: the place of the first byte with which none begins so: E, T, F");
        taken("far 1 ", "", "(!pkvcnr");
        taken("far 1 p", "", "<=>");
        taken("far 1 r", "", "<=>");
        taken("far 1 p=", DIGITS, "");
        taken("far 1 p>1", DIGITS, "&|;");
        taken("far 1 p<12", "", "&|;");
        taken("far 1 p=1&", "", "(!pkvcnr");
        taken("far 1 p=1|", "", "(!pkvcnr");
        taken("far 1 !", "", "(!pkvcnr");
        taken("far 1 !p=1", DIGITS, "&|;");
        taken("far 1 (", "", "(!pkvcnr");
        taken("far 1 (p=1", ")", "&|" + DIGITS);
        taken("far 1 (p=12", ")", "&|");
        taken("far 1 (p=1&", "", "(!pkvcnr");
        taken("far 1 (p=1)", "", "&|;");
        taken("far 1 ((p=12)", ")", "&|");
        taken("far 1 !(!p=1", ")", "&|" + DIGITS);
        taken("far 1 (p=1);", "", "gfa");
    }

    private static void withinFour() {
        Check.sentence("A ( or ! within 4 others is none");
        taken("far 1 (((", "", "(!pkvcnr");
        taken("far 1 ((((", "", "pkvcnr");
        taken("far 1 !!!", "", "(!pkvcnr");
        taken("far 1 !!!!", "", "pkvcnr");
        taken("far 1 (!(!", "", "pkvcnr");
        taken("far 1 !(!(", "", "pkvcnr");
        taken("far 1 ((((p=1&", "", "pkvcnr");
        taken("far 1 ((((p=1|", "", "pkvcnr");
        taken("far 1 ((((p=12)", "", ")&|");
        Check.sentence("A ( or ! behind others, not within them, may stand: each ends with its F");
        taken("far 1 ((((p=1)&", "", "(!pkvcnr");
        taken("far 1 ((((p=1))|", "", "(!pkvcnr");
        taken("far 1 !!!!p=1&", "", "(!pkvcnr");
        taken("far 1 (!!!p=1&", "", "(!pkvcnr");
        taken("far 1 (!!!p=1&!!", "", "(!pkvcnr");
        taken("far 1 (!!!p=1&!!!", "", "pkvcnr");
        isLand("far 1 ((((p=1))))&((((p=1))))|((((p=1))));far 1 ((((p=1))))");
        isLand("far 1 " + "(p=1)|".repeat(14) + "!!!!p=1");
        Check.sentence("4 ( or ! are all looked at");
        Told x = Told.places(1);
        x.lands("great 1 !!!!p=0").due("of(0, 3)", 1).lands("great 1 !!!p=0").due("of(0, 3)", 0);
        x.lands("great 1 ((((p=0))))").due("of(0, 3)", 1).lands("great 1 !(!(p=0))&(!(!p=0))").due("of(0, 3)", 1);
    }

    private static void faultIsTheFirst() {
        Check.sentence("The FAULT: the place of the first byte: one byte wrong at each place of a LAND");
        String land = "great 12 !(p=3|k<45&!n>6);far 7 ((c=1)&v=22)|r<3;arms 10";
        isLand(land);
        for (int at = 0; at < land.length(); at++) {
            fault(land.substring(0, at) + (char) 127 + land.substring(at + 1), at);
            fault(land.substring(0, at) + (char) 0 + land.substring(at + 1), at);
        }
        Check.sentence("The FAULT: the first of two");
        fault("arms 1x;arms 2x", 6);
    }

    /** Each beginning of a LAND is one itself only if its length is told; else it ends too early. */
    private static void beginnings(String land, int... lands) {
        for (int n = 0; n < land.length(); n++) {
            boolean is = false;
            for (int length : lands) {
                is |= length == n;
            }
            new Told().dueLand(land.substring(0, n), is ? 0 : -10 - n);
        }
        isLand(land);
    }

    private static void faultIsTheEnd() {
        Check.sentence("(the end of THE TEXT, if it ends too early)");
        beginnings("arms 12", 6);
        beginnings("great 12 p=34", 12);
        beginnings("far 12 !(!p=34)");
        beginnings("far 1 (p=3&k=4)|v<5;arms 7", 15, 19);
        beginnings("great 1 p=1&p=2|p=30;far 2 c=10", 11, 15, 19, 20, 30);
    }

    private static void faultOfAHundred() {
        Check.sentence("-10 less the FAULT: of 100 bytes that end too early, of the last byte");
        String open = "far 1 " + "p=1|".repeat(23);
        fault(open + "p=", 100);
        fault(open + "!p", 100);
        fault(open + "p ", 99);
        fault(open, 98);
        isLand("far 1 " + "p=1|".repeat(22) + "!!p=11");
    }

    private static void newestHolds() {
        Check.sentence("The newest LAND holds");
        Told x = Told.places(2).runs("road(0, 1, 1)").lands("great 5 p=0;far 5 p=0;arms 1");
        x.due("of(0, 3)", 5).due("far(0, 1)", 6).due("told(0)", 1);
        x.lands("great 7 p=1").due("of(0, 3)", 0).due("of(1, 3)", 7).due("far(0, 1)", 1).due("told(0)", 4);
    }

    private static void landsAreSix() {
        Check.sentence("(6 at most); is a LAND, and holds: its number. FULL: there are 6 (THE TEXT stays)");
        Told x = Told.places(1);
        for (int k = 0; k < 6; k++) {
            x.due("count(1)", k).dueLand("great 1" + k + " p=0", k).due("of(0, 3)", 10 + k);
        }
        x.dueLand("great 99 p=0", -4).due("count(1)", 6).due("count(4)", 12).due("of(0, 3)", 15);
        x.due("land()", -4).due("count(4)", 12).due("feed(32)", 13);
        Check.sentence("the first that a call's words name: FULL ahead of the FAULT");
        x.due("land()", -4).due("count(4)", 13);
        Told y = new Told();
        for (int k = 0; k < 6; k++) {
            y.dueLand("arms 1", k);
        }
        y.due("land()", -4).due("count(4)", 0);
    }

    private static void faultOrFull() {
        Check.sentence("-10 less the FAULT (the one that held holds)");
        Told x = Told.places(1).due("land()", -10).due("of(0, 3)", 0).due("told(0)", 4).due("count(1)", 0);
        x.dueLand("great 8 p=0;arms 9", 0).due("of(0, 3)", 8);
        x.dueLand("great 9 p=0;arms 5;", -29).due("of(0, 3)", 8).due("told(0)", 9).due("count(1)", 1);
        x.due("count(4)", 0).due("land()", -10).due("of(0, 3)", 8);
        Check.sentence("a faulty text has no number: the next LAND has it");
        x.dueLand("great 3 p=0", 1).due("of(0, 3)", 3).due("told(0)", 4).due("count(1)", 2);
    }

    private static void faultLeavesNothing() {
        Check.sentence("a text with a FAULT is no LAND: nothing of it comes to the next one, however long it is");
        String faulty = "arms 9;great 1 p=0" + "|p=0".repeat(18) + ";great";
        Told x = Told.places(1);
        for (int k = 0; k < 3; k++) {
            x.dueLand(faulty, -10 - faulty.length());
        }
        x.dueLand("great 5 p=1" + "|p=1".repeat(9), 0).due("of(0, 3)", 0).due("told(0)", 4);
        x.dueLand("great 5 p=1" + "|p=1".repeat(8) + "|p=0", 1).due("of(0, 3)", 5);
    }

    /** A CLAUSE of 10 for a PLACE 1 among two, KIND 2. */
    private static void holds(String either, boolean is) {
        new Told().runs("place(0, 0, 0) place(2, 0, 0)").lands("great 10 " + either).due("of(1, 3)", is ? 10 : 0);
    }

    private static void eitherAndBoth() {
        Check.sentence("E: T or T|E: of one, two, many the first alone holds, the last alone, none");
        holds("p=1", true);
        holds("p=0", false);
        holds("p=1|p=0", true);
        holds("p=0|p=1", true);
        holds("p=0|p=0", false);
        holds("p=1" + "|p=0".repeat(20), true);
        holds("p=0|".repeat(20) + "p=1", true);
        holds("p=0|".repeat(10) + "p=1" + "|p=0".repeat(10), true);
        holds("p=0" + "|p=0".repeat(20), false);
        Check.sentence("T: F or F&T: of one, two, many all hold, the first alone does not, the last alone");
        holds("p=1&p=1", true);
        holds("p=0&p=1", false);
        holds("p=1&p=0", false);
        holds("p=1" + "&p=1".repeat(20), true);
        holds("p=0" + "&p=1".repeat(20), false);
        holds("p=1&".repeat(20) + "p=0", false);
        holds("p=1&".repeat(10) + "p=0" + "&p=1".repeat(10), false);
        Check.sentence("E: T|E, T: F&T: & is within |");
        holds("p=1|p=0&p=0", true);
        holds("p=0&p=0|p=1", true);
        holds("(p=1|p=0)&p=0", false);
        holds("p=0&p=1|p=1&p=0|k=1&k=2|k=2&k=2", true);
        holds("p=0&p=1|p=1&p=0|k=1&k=2|k=2&k=1", false);
        Check.sentence("F: !F: of one F alone");
        holds("!p=0&p=0", false);
        holds("!p=1|p=1", true);
        holds("!(p=1&p=0)", true);
        holds("!(p=0|p=1)", false);
    }

    private static void testsOf99() {
        Check.sentence("a TEST: a letter, < or = or >, a number: 0 and 99");
        for (String letter : new String[] {"p", "k", "v", "c", "n", "r"}) {
            Told x = new Told().runs("place(2, 3, 40) place(1, 9, 99) road(0, 1, 1) name(0, 1)");
            // only p of PLACE 0 is 0
            x.lands("great 5 " + letter + "<0;great 10 " + letter + "=0;great 20 " + letter + ">0");
            x.due("of(0, 3)", letter.equals("p") ? 50 : 60).due("of(1, 3)", 119);
            x.lands("great 5 " + letter + "<99;great 10 " + letter + "=99;great 20 " + letter + ">99");
            x.due("of(0, 3)", 45).due("of(1, 3)", 104);
        }
    }

    private static void noLand() {
        Check.sentence("without one there are no CLAUSES");
        Told x = new Told().runs("place(0, 0, 99) place(6, 9, 0) road(0, 1, 99) name(0, 1)");
        x.due("of(0, 3)", 99).due("of(1, 3)", 0).due("far(0, 1)", 99).due("told(0)", 4);
    }

    /** A PLACE of the letters' values; a TEST of f itself, of the one below it, of the one above. */
    private static void value(String letter, int f, String calls) {
        Told x = new Told().runs(calls);
        int p = letter.equals("p") ? f : 0;
        long without = x.ask("of(" + p + ", 3)");
        for (int number = Math.max(0, f - 1); number <= f + 1; number++) {
            String test = letter + "=" + number + ";great 20 " + letter + "<" + number + ";great 30 " + letter + ">";
            long due = number == f ? 10 : number > f ? 20 : 30;
            if (x.ask("count(1)") < 6) {
                x.lands("great 10 " + test + number).due("of(" + p + ", 3)", without + due);
            }
        }
    }

    private static void sizes() {
        Check.sentence("p its number, k its KIND, v its number v: least and greatest");
        String seven = "place(0, 0, 0) ".repeat(7);
        value("p", 0, seven);
        value("p", 6, seven);
        value("k", 0, "place(0, 5, 55)");
        value("k", 6, "place(6, 5, 55)");
        value("v", 0, "place(5, 0, 55)");
        value("v", 9, "place(5, 9, 55)");
        Check.sentence("c PEOPLE by 10 (cut)");
        int[][] cut = {{0, 0}, {9, 0}, {10, 1}, {19, 1}, {20, 2}, {89, 8}, {90, 9}, {99, 9}};
        for (int[] c : cut) {
            value("c", c[1], "place(5, 5, " + c[0] + ")");
        }
        Check.sentence("n how many it names, r how many ROADS it has: none, all");
        value("n", 0, seven);
        value("r", 0, seven);
        value("n", 4, seven + "name(0, 1) name(2, 0) name(0, 3) name(6, 0) name(1, 2)");
        String roads = "road(0, 1, 1) road(2, 0, 99) road(0, 3, 1) road(4, 0, 1) road(0, 5, 1) road(6, 0, 1) ";
        value("r", 6, seven + roads + "road(1, 2, 5)");
        value("r", 5, seven + roads + "road(3, 0, 0)");
        Check.sentence("SIZE: PEOPLE, and the n of all great whose E holds, together: none, all");
        Told x = new Told().runs("place(0, 0, 99)").lands("great 99 p=0;".repeat(6) + "great 99 p=00;arms 1");
        x.due("of(0, 3)", 99 + 7 * 99).due("of(0, 2)", 99);
        x.lands("great 99 p>0;great 99 p=0&p=1").due("of(0, 3)", 99);
        x.lands("great 0 p=0").due("of(0, 3)", 99);
    }

    private static void longs() {
        Check.sentence("LONG of a ROAD: MILES, and the n of all far whose E holds, together: none, all");
        Told x = Told.places(3).runs("road(0, 1, 99) road(2, 1, 1)").lands(TEN);
        x.due("far(0, 1)", 190).due("far(1, 0)", 190).due("far(1, 2)", 92).due("far(0, 2)", 0);
        x.lands("far 99 p<9;".repeat(8) + "far 99 p<9").due("far(0, 1)", 990).due("far(2, 1)", 892);
        x.lands("far 0 p<9;great 99 p<9").due("far(0, 1)", 99).due("far(2, 1)", 1);
        Check.sentence("(of far: of the one of the two with the lesser number)");
        String two = "place(1, 2, 30) place(4, 5, 60) place(0, 0, 0) road(1, 0, 1) road(1, 2, 1) road(0, 3, 1) "
                + "name(1, 2) name(1, 3) name(0, 3) road(0, 2, 1)";
        String[] ofTheLesser = {"p=0", "k=1", "v=2", "c=3", "n=1", "r=3"};
        String[] ofTheOther = {"p=1", "k=4", "v=5", "c=6", "n=2", "r=2"};
        for (int k = 0; k < 6; k++) {
            Told y = new Told().runs("place(1, 2, 30) place(4, 5, 60) place(0, 0, 0) place(0, 0, 0)");
            y.runs(two.substring(two.indexOf("road")));
            y.lands("far 10 " + ofTheLesser[k]).due("far(0, 1)", 11).due("far(1, 0)", 11);
            y.lands("far 10 " + ofTheOther[k]).due("far(0, 1)", 1).due("far(1, 0)", 1);
        }
    }

    private static void arms() {
        Check.sentence("arms (4 without): the last one's n");
        Told x = new Told().due("told(0)", 4).lands("arms 0").due("told(0)", 0).lands("arms 99").due("told(0)", 99);
        x.lands("arms 7;arms 8;great 1 p=1;arms 1;far 1 p=1").due("told(0)", 1);
        x.lands("great 1 p=1").due("told(0)", 4).lands("arms 04").due("told(0)", 4);
    }

    private static void told() {
        Check.sentence("What 0 arms, 1 how many NAMES. NONE");
        Told x = new Told().dueAll(-1, "told(-1)", "told(2)", "told(LOW)", "told(HIGH)").due("told(1)", 0);
        x = Told.places(7).lands("arms 6");
        for (int p = 0, n = 0; p < 7; p++) {
            for (int q = p + 1; q < 7; q++) {
                n++;
                x.runs("name(" + q + ", " + p + ")").due("told(1)", n);
            }
        }
        x.due("told(1)", 21).lands("arms 0").due("told(1)", 21).due("told(0)", 0);
    }
}
