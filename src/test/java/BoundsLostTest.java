/** Each sentence that names a boundary, of GETS, ODDS, MEAN, the BOOK, LOOKED: Terms 2, promises 25 to 29. */
final class BoundsLostTest {
    private static final long NO = Long.MIN_VALUE;

    private BoundsLostTest() {
    }

    public static void main(String[] args) {
        getsNone();
        getsOfSeveral();
        getsLeaves();
        oddsOfNoSteps();
        oddsOfSixSteps();
        oddsRefuse();
        oddsByArms();
        oddsStay();
        meanNone();
        meanLowest();
        bookIsTwelve();
        bookRefuses();
        lookedNone();
        lookedFirst();
        lookedThere();
        lookedLast();
        Check.end("BoundsLostTest");
    }

    private static void getsNone() {
        Check.sentence("GETS: how many of MANY of TRAVELLERS that are LOST come to stand there at last. NONE");
        Told x = Told.places(3).dueAll(0, "gets(0)", "gets(2)").runs("road(0, 1, 1) traveller(0, 1, 99)");
        x.dueAll(0, "gets(0)", "gets(1)", "gets(2)");
        for (String p : Told.NO_PLACES) {
            x.due("gets(" + p + ")", -1);
        }
        new Told().due("gets(0)", -1);
    }

    private static void getsOfSeveral() {
        Check.sentence("GETS: all eight TRAVELLERS, none");
        Told x = Told.kinds(4, 0, 0, 0).runs("road(0, 1, 1)");
        for (int t = 0; t < 4; t++) {
            x.runs("traveller(0, 2, 99) traveller(1, 3, 99)");
        }
        x.due("lost(0)", 792).due("gets(1)", 396).due("gets(0)", 396).due("gets(2)", 0).due("gets(3)", 0);
        // 0 asks: where there is a WAY to it, one comes as far as 1, that names none
        x.runs("road(1, 3, 1) road(3, 2, 1)").due("gets(1)", 396).due("gets(0)", 0).due("lost(0)", 396);
        x.runs("name(1, 3)").due("gets(1)", 0).due("lost(0)", 0);
    }

    private static void getsLeaves() {
        Check.sentence("GETS: who never leaves stands where one began");
        Told x = Told.places(3).runs("traveller(2, 0, 1) traveller(2, 1, 98) traveller(0, 2, 7)");
        x.due("gets(2)", 99).due("gets(0)", 7).due("gets(1)", 0);
    }

    private static void odds(Told x, String call, long above, long below) {
        x.due("odds(" + call + ", 0)", above).due("odds(" + call + ", 1)", below);
    }

    private static void oddsOfNoSteps() {
        Check.sentence("ODDS of n STEPS (0 .. 6): of none: 1 by 1 where one is, 0 by 1 elsewhere");
        Told x = Told.places(3).runs("road(0, 1, 1) name(0, 1)");
        odds(x, "0, 0, 0", 1, 1);
        odds(x, "0, 1, 0", 0, 1);
        odds(x, "2, 2, 0", 1, 1);
        odds(x, "2, 0, 0", 0, 1);
        odds(x, "0, 1, 1", 1, 1);
        odds(x, "0, 0, 1", 0, 1);
    }

    private static void oddsOfSixSteps() {
        Check.sentence("ODDS of 6 STEPS, a fraction in lowest terms: by six names at each of seven PLACES");
        Told x = Told.places(7).lands("arms 6").pairs(7, "road(P, Q, 9) name(P, Q)");
        // of the 6 to the power of n ways, those that end where they begin: 0, 6, 30, 186, 1110, 6666
        odds(x, "0, 0, 1", 0, 1);
        odds(x, "0, 0, 2", 1, 6);
        odds(x, "6, 6, 3", 5, 36);
        odds(x, "3, 3, 4", 31, 216);
        odds(x, "0, 0, 5", 185, 1296);
        odds(x, "6, 6, 6", 1111, 7776);
        odds(x, "0, 6, 1", 1, 6);
        odds(x, "6, 0, 6", 6665, 46656);
        odds(x, "5, 6, 5", 1111, 7776);
    }

    private static void oddsRefuse() {
        Check.sentence("odds: part 0 above, 1 below the line. NO");
        Told x = Told.places(3).runs("road(0, 1, 1) name(0, 1)").due("odds(0, 1, 6, 0)", 0).due("odds(0, 1, 6, 1)", 1);
        x.dueAll(NO, "odds(0, 1, 1, -1)", "odds(0, 1, 1, 2)", "odds(0, 1, 1, LOW)", "odds(0, 1, 1, HIGH)");
        x.dueAll(NO, "odds(0, 1, -1, 0)", "odds(0, 1, 7, 0)", "odds(0, 1, LOW, 1)", "odds(0, 1, HIGH, 1)");
        for (String p : Told.NO_PLACES) {
            x.dueAll(NO, "odds(" + p + ", 0, 1, 0)", "odds(2, " + p + ", 1, 1)", "odds(" + p + ", " + p + ", 0, 0)");
        }
        new Told().dueAll(NO, "odds(0, 0, 0, 0)", "odds(0, 1, 1, 1)");
    }

    private static void oddsByArms() {
        Check.sentence("TOWARD any one that is named there, each alike likely: one name to six");
        Told x = Told.places(7).lands("arms 6");
        for (int p = 1; p < 7; p++) {
            x.runs("road(0, " + p + ", 1) name(0, " + p + ")");
            odds(x, "0, 1, 1", 1, p);
            odds(x, "0, " + p + ", 1", 1, p);
            odds(x, p + ", 0, 1", 1, 1);
            odds(x, "0, 0, 6", 1, 1);
            odds(x, "1, 1, 2", 1, p);
        }
        Check.sentence("TOWARD several that are named there one may come to the same PLACE");
        Told y = BoundsJourneysTest.row(Told.places(5), 1, 1, 1, 1).runs("name(2, 0) name(2, 1) name(2, 4)");
        odds(y, "2, 1, 1", 2, 3);
        odds(y, "2, 3, 1", 1, 3);
        odds(y, "2, 0, 1", 0, 1);
        odds(y, "2, 2, 2", 2, 3);
        odds(y, "2, 3, 2", 1, 3);
    }

    private static void oddsStay() {
        Check.sentence("(who finds none named, or no WAY to that one, stays for that STEP)");
        Told x = Told.places(4);
        odds(x, "0, 0, 6", 1, 1);
        odds(x, "0, 1, 6", 0, 1);
        x.runs("name(0, 1)");
        odds(x, "0, 0, 6", 1, 1);
        x.runs("road(0, 2, 1) name(0, 2) name(0, 3)");
        // of three only 2 can be come to, and 2 sends back
        odds(x, "0, 0, 1", 2, 3);
        odds(x, "0, 2, 1", 1, 3);
        odds(x, "2, 0, 1", 1, 1);
        odds(x, "0, 0, 2", 7, 9);
        odds(x, "0, 2, 2", 2, 9);
        odds(x, "1, 1, 6", 1, 1);
        x.runs("strike(0, 2) road(0, 2, 0) road(0, 1, 1)");
        odds(x, "0, 1, 1", 1, 2);
        odds(x, "0, 0, 1", 1, 2);
    }

    private static void meanNone() {
        Check.sentence("MEAN (NO: none); part likewise. NO");
        Told x = new Told().dueAll(NO, "mean(0)", "mean(1)", "mean(-1)", "mean(2)", "mean(LOW)", "mean(HIGH)");
        x.runs("place(0, 0, 0)").dueAll(NO, "mean(0)", "mean(1)");
        x.runs("place(0, 0, 0)").dueAll(NO, "mean(0)", "mean(1)");
        x.runs("road(0, 1, 1)").dueAll(1, "mean(0)", "mean(1)");
        x.dueAll(NO, "mean(-1)", "mean(2)", "mean(LOW)", "mean(HIGH)");
        x.runs("road(0, 1, 0)").dueAll(NO, "mean(0)", "mean(1)");
    }

    private static void meanLowest() {
        Check.sentence("MEAN: together, by how many they are: a fraction in lowest terms");
        Told x = Told.places(3).runs("road(0, 1, 99)").due("mean(0)", 99).due("mean(1)", 1);
        x.runs("road(1, 2, 98)").due("mean(0)", 197).due("mean(1)", 2);
        // 0 to 2 asks: 197 as well, 591 by 5
        Told y = Told.kinds(4, 0, 0).runs("road(0, 1, 99) road(1, 2, 98)").due("mean(0)", 591).due("mean(1)", 5);
        y.runs("road(1, 2, 97)").due("mean(0)", 588).due("mean(1)", 5).runs("road(1, 2, 96)").due("mean(0)", 117);
        y.due("mean(1)", 1);
        Told z = BoundsJourneysTest.row(Told.kinds(4, 4, 4, 4, 4, 4, 4), 99, 99, 99, 99, 99, 99);
        // 42 JOURNEYS, 112 ROADS of 990 together
        z.lands("far 99 p<9;".repeat(8) + "far 99 p<9").due("mean(0)", 2640).due("mean(1)", 1);
    }

    private static void bookIsTwelve() {
        Check.sentence("A BOOK (PLACES, 12 at most): how many there are. FULL: 12");
        Told x = Told.places(7);
        for (int row = 1; row <= 12; row++) {
            x.due("count(3)", row - 1).due("book(" + row % 7 + ")", row);
        }
        x.dueAll(-4, "book(0)", "book(6)").due("count(3)", 12);
        Check.sentence("the first that a call's words name: NONE ahead of FULL");
        x.dueAll(-1, "book(7)", "book(-2)", "book(LOW)", "book(HIGH)");
        Check.sentence("(-1: it is empty then, 0)");
        x.due("book(-1)", 0).due("count(3)", 0).due("book(-1)", 0).due("book(6)", 1).due("looked(0)", -5);
        new Told().due("book(-1)", 0).due("count(3)", 0).due("book(0)", -1);
    }

    private static void bookRefuses() {
        Check.sentence("book: NONE");
        Told x = Told.places(3).due("book(2)", 1);
        for (String p : Told.NO_PLACES) {
            if (!p.equals("-1")) {
                x.due("book(" + p + ")", -1);
            }
        }
        x.due("count(3)", 1).due("book(0)", 2);
        Check.sentence("a PLACE may come to the BOOK twice, one row behind the other");
        x.due("book(0)", 3).due("book(0)", 4);
    }

    private static void lookedNone() {
        Check.sentence("LOOKED: (-5: none). NONE");
        Told x = Told.places(3).runs("road(0, 1, 1)").dueAll(-5, "looked(0)", "looked(2)");
        x.runs("book(2)").dueAll(-5, "looked(0)", "looked(2)").runs("book(-1) book(0) book(1)").due("looked(1)", -5);
        for (String p : Told.NO_PLACES) {
            x.due("looked(" + p + ")", -1);
        }
        new Told().due("looked(0)", -1);
    }

    private static void lookedFirst() {
        Check.sentence("LOOKED: the first row (from 1) to which one does not go from the one ahead of it");
        Told x = BoundsJourneysTest.row(Told.kinds(4, 4, 4, 4), 1, 1, 1).runs("book(0) book(2)");
        x.due("looked(3)", 1).runs("book(-1) book(0) book(1) book(3)").due("looked(3)", 2).due("looked(2)", 2);
        x.runs("book(-1) book(0) book(1) book(2) book(3)").due("looked(3)", -5).due("looked(0)", 1).due("looked(1)", 2);
        x.runs("book(1) book(0)").due("looked(3)", 4).due("looked(2)", 3);
    }

    private static void lookedThere() {
        Check.sentence("who is there goes nowhere");
        Told x = Told.places(3).runs("road(0, 1, 1) book(0) book(1) book(1) book(0)").due("looked(1)", 2);
        x.due("looked(0)", 1).runs("book(-1) book(1) book(1)").due("looked(1)", 1);
        Check.sentence("who goes nowhere goes to no row");
        x.runs("book(-1) book(0) book(1)").due("looked(2)", 1).due("looked(1)", -5);
        x.runs("book(-1) book(0) book(0)").due("looked(2)", 1);
    }

    private static void lookedLast() {
        Check.sentence("LOOKED: the last of twelve rows");
        Told x = Told.places(3).runs("road(0, 1, 1) name(0, 1)").runs("book(0) book(1) ".repeat(6));
        x.due("looked(2)", -5);
        x.runs("book(-1)").runs("book(0) book(1) ".repeat(5)).runs("book(0)").due("looked(2)", -5);
        x.runs("book(0)").due("looked(2)", 11).due("count(3)", 12);
    }
}
