/** Each sentence that names a boundary, of PUT, STRIKE, FALSE, CHAIN, ALL IN, CAPITALS, ROAD: promises 18 to 24. */
final class BoundsArmsTest {
    private BoundsArmsTest() {
    }

    public static void main(String[] args) {
        putNone();
        putArms();
        putWhich();
        putWithTheLand();
        strikeNone();
        strikeWhich();
        falseTheNext();
        falseOfFew();
        falseByNone();
        turnedRefuses();
        chainFewest();
        chainRefuses();
        allInOfFew();
        allInExactly();
        capitalsAllSuch();
        newRoadNone();
        newRoadMiles();
        newRoadOfSeveral();
        newRoadFor999();
        newRoadLonger();
        Check.end("BoundsArmsTest");
    }

    private static Told namesAllBut(Told x, int places, String... not) {
        for (int p = 0; p < places; p++) {
            for (int q = p + 1; q < places; q++) {
                if (!java.util.List.of(not).contains(p + "" + q)) {
                    x.runs("name(" + p + ", " + q + ")");
                }
            }
        }
        return x;
    }

    private static void putNone() {
        Check.sentence("PUT: (-5: there is none such pair); how many are LOST then. NONE");
        Told x = new Told().dueAll(-5, "put(0)", "put(1)").runs("place(0, 0, 0)").dueAll(-5, "put(0)", "put(1)");
        x.runs("place(0, 0, 0)").due("put(0)", 1).due("put(1)", 2);
        x.dueAll(-1, "put(-1)", "put(2)", "put(LOW)", "put(HIGH)");
        x.runs("road(0, 1, 1)").due("put(0)", 1).due("put(1)", 0);
        x.runs("name(0, 1)").dueAll(-5, "put(0)", "put(1)").dueAll(-1, "put(-1)", "put(2)");
        namesAllBut(Told.places(7).lands("arms 6"), 7).dueAll(-5, "put(0)", "put(1)");
    }

    private static void putArms() {
        Check.sentence("of pairs that do not name each other, both with fewer names than arms");
        Told x = Told.places(3).runs("name(0, 1)").lands("arms 0").dueAll(-5, "put(0)", "put(1)");
        x.lands("arms 1").dueAll(-5, "put(0)", "put(1)").lands("arms 2").due("put(0)", 2).due("put(1)", 6);
        x.runs("name(0, 2)").due("put(0)", 12).lands("arms 1").due("put(0)", -5).due("put(1)", -5);
        x.lands("arms 99").due("put(0)", 12);
        Check.sentence("arms (4 without): the one, or the other, names four");
        Told y = Told.places(7).runs("name(0, 1) name(0, 2) name(0, 3)").due("put(0)", 4);
        y.runs("name(0, 4)").due("put(0)", 12).runs("name(6, 1) name(6, 2) name(6, 3) name(6, 4)").due("put(0)", 12);
        y.runs("name(1, 2) name(1, 3)").due("put(0)", 23).runs("strike(0, 1)").due("put(0)", 1);
        y.runs("name(0, 5)").due("put(0)", 14);
        // 1 to 5 name one another, four each; 0 and 6 name none
        Told z = namesAllBut(Told.places(7), 6, "01", "02", "03", "04", "05").due("put(0)", 6);
        z.runs("name(0, 6)").due("put(0)", -5).lands("arms 5").due("put(0)", 1);
    }

    private static void putWhich() {
        Check.sentence("LOST pairs are fewest (of several the first by the lesser, then the other)");
        Told.places(7).due("put(0)", 1).due("put(1)", 42);
        namesAllBut(Told.places(7).lands("arms 6"), 7, "56").due("put(0)", 56).due("put(1)", 42);
        namesAllBut(Told.places(7).lands("arms 6"), 7, "16", "24").due("put(0)", 16).due("put(1)", 42);
        namesAllBut(Told.places(7).lands("arms 6"), 7, "16", "15").due("put(0)", 15).due("put(1)", 42);
        Check.sentence("10 times the lesser, and the other: the fewest is not the first");
        Told x = Told.places(5).runs("road(2, 3, 1) road(3, 4, 1)").due("lost(1)", 16);
        x.due("put(0)", 24).due("put(1)", 14).due("lost(1)", 16).due("told(1)", 0);
        x.runs("road(4, 0, 1) road(2, 4, 9)").due("lost(1)", 12);
        // by 03 one comes from 0 to 3 and to 2, and from 3 to 0; by 02 only from 0 to 2 and to 3
        x.due("put(0)", 3).due("put(1)", 9);
    }

    private static void putWithTheLand() {
        Check.sentence("that by which, put up, LOST pairs are fewest: with n of the LAND as it is then");
        // 0 is GREAT and names 1, 2: it sends who wants to 3 to 2, the greater one; by one name more of 1, that has a
        // ROAD to 3, 1 is the greater one
        Told x = new Told().runs("place(2, 0, 0) place(0, 0, 0) place(0, 0, 1) place(0, 0, 0)");
        x.runs("road(0, 1, 1) road(0, 2, 1) road(1, 3, 1) name(0, 1) name(0, 2)").lands("great 9 n>1&p=1;arms 2");
        // LOST are 0 to 3, 2 to 3 and 3 to 0, 3 to 2; 1 to 2 goes TOWARD 0
        x.due("lost(1)", 4).due("gone(0, 3, 0)", -5);
        // by 12 3 to 0 and 3 to 2 are LOST still; by 23 0 to 3 and 2 to 3; by 13 3 sends all TOWARD 1: none
        x.due("put(0)", 13).due("put(1)", 0);
    }

    private static void strikeNone() {
        Check.sentence("STRIKE: of NAMES (likewise: -5: there is none such pair). NONE");
        Told x = new Told().dueAll(-5, "worst(0)", "worst(1)");
        x.runs("place(0, 0, 0)").dueAll(-5, "worst(0)", "worst(1)");
        x.runs("place(0, 0, 0) road(0, 1, 1)").dueAll(-5, "worst(0)", "worst(1)");
        x.dueAll(-1, "worst(-1)", "worst(2)", "worst(LOW)", "worst(HIGH)");
        x.runs("name(0, 1)").due("worst(0)", 1).due("worst(1)", 0).dueAll(-1, "worst(-1)", "worst(2)");
        x.runs("strike(0, 1)").dueAll(-5, "worst(0)", "worst(1)");
    }

    private static void strikeWhich() {
        Check.sentence("struck off, LOST pairs are most (of several the first by the lesser, then the other)");
        Told.places(7).runs("name(6, 5)").due("worst(0)", 56).due("worst(1)", 42).due("told(1)", 1);
        Told.places(7).runs("name(6, 5) name(3, 1) name(2, 4)").due("worst(0)", 13).due("worst(1)", 42);
        Told.places(7).runs("name(6, 1) name(5, 1) name(4, 2)").due("worst(0)", 15);
        Told x = Told.places(5).runs("road(2, 3, 1) road(3, 4, 1) name(2, 4) name(0, 1)").due("lost(1)", 14);
        x.due("worst(0)", 24).due("worst(1)", 16).due("lost(1)", 14);
        x.lands("arms 0").due("worst(0)", 24).due("worst(1)", 16);
    }

    /** All ask, by ROADS to a centre; it names one, and from another one there is a ROAD to that one as well. */
    private static Told star(int centre, int named, int knows) {
        Told x = Told.kinds(4, 4, 4, 4, 4, 4, 4);
        for (int p = 0; p < 7; p++) {
            if (p != centre) {
                x.runs("road(" + centre + ", " + p + ", 1)");
            }
        }
        return x.runs("road(" + knows + ", " + named + ", 1) name(" + centre + ", " + named + ")");
    }

    private static void falseTheNext() {
        Check.sentence("the next one by numbers (behind the last the first; if that is this PLACE, the one behind it)");
        // centre, named, the one TOWARD which one is sent
        int[][] sent = {{0, 1, 2}, {0, 5, 6}, {6, 0, 1}, {3, 4, 5}, {3, 1, 2}, {1, 6, 0}, {5, 6, 0}, {0, 6, 1},
            {1, 0, 2}, {3, 2, 4}, {5, 4, 6}, {6, 5, 0}};
        for (int[] s : sent) {
            for (int knows = 0; knows < 7; knows++) {
                if (knows == s[0] || knows == s[1]) {
                    continue;
                }
                // who is sent to the one that has a ROAD there comes to it; else all but that one are LOST: they are
                // sent back
                Told x = star(s[0], s[1], knows).due("lost(1)", 0);
                x.due("turned(" + s[0] + ", " + s[1] + ")", knows == s[2] ? 0 : 5).due("lost(1)", 0);
            }
        }
    }

    private static void falseOfFew() {
        Check.sentence("FALSE among two and among three PLACES");
        Told two = Told.places(2).runs("road(0, 1, 1) name(0, 1)").dueAll(0, "turned(0, 1)", "turned(1, 0)");
        two.runs("road(0, 1, 0)").dueAll(2, "turned(0, 1)", "turned(1, 0)");
        Told three = Told.kinds(4, 4, 4).runs("road(0, 1, 1) road(0, 2, 1) name(0, 1) name(0, 2)").due("lost(1)", 0);
        // TOWARD 2, which sends them back; TOWARD 1; at 1 TOWARD 2 for 0, which is TOWARD 0; at 2 TOWARD 1 likewise
        three.due("turned(0, 1)", 2).due("turned(0, 2)", 2).due("turned(1, 0)", 0).due("turned(2, 0)", 0);
    }

    private static void falseByNone() {
        Check.sentence("FALSE: TOWARD the next one there may be no WAY");
        Told x = Told.kinds(4, 4, 4, 4).runs("road(0, 1, 1) road(1, 3, 1) name(0, 1)").due("lost(1)", 6);
        // at 0 TOWARD 2: nowhere, for who wants to 1; who asks for 3 goes TOWARD 3
        x.due("turned(0, 1)", 7).due("turned(1, 0)", 8);
    }

    private static void turnedRefuses() {
        Check.sentence("turned: NONE; STATE: it is not named there");
        Told x = Told.places(3).runs("name(0, 1) road(0, 2, 1)");
        x.dueAll(-3, "turned(0, 2)", "turned(2, 0)", "turned(0, 0)", "turned(2, 2)", "turned(1, 2)");
        x.due("turned(0, 1)", 4).due("turned(1, 0)", 4);
        for (String p : Told.NO_PLACES) {
            x.dueAll(-1, "turned(" + p + ", 0)", "turned(2, " + p + ")", "turned(" + p + ", " + p + ")");
        }
        new Told().due("turned(0, 0)", -1);
        x.runs("strike(0, 1)").dueAll(-3, "turned(0, 1)", "turned(1, 0)");
    }

    private static void chainFewest() {
        Check.sentence("CHAIN: the fewest names (1: at once; -5: never)");
        Told x = Told.places(7).dueAll(-5, "chain(0, 1)", "chain(0, 6)", "chain(6, 0)");
        for (int p = 1; p < 7; p++) {
            x.runs("name(" + p + ", " + (p - 1) + ")").due("chain(0, " + p + ")", p).due("chain(" + p + ", 0)", p);
            x.due("chain(0, " + (p + 1) % 7 + ")", p < 6 ? -5 : -2).due("chain(" + (p - 1) + ", " + p + ")", 1);
        }
        x.due("chain(6, 0)", 6).runs("name(0, 6)").due("chain(6, 0)", 1).due("chain(0, 3)", 3).due("chain(0, 4)", 3);
        x.runs("strike(3, 4) strike(0, 6)").due("chain(0, 6)", -5).due("chain(0, 3)", 3).due("chain(6, 4)", 2);
        Check.sentence("CHAIN goes by names, not by ROADS");
        Told y = BoundsJourneysTest.row(Told.places(3), 1, 1).dueAll(-5, "chain(0, 1)", "chain(0, 2)");
        y.runs("name(0, 2)").due("chain(0, 2)", 1).due("chain(0, 1)", -5);
    }

    private static void chainRefuses() {
        Check.sentence("chain: NONE; BAD: one PLACE");
        Told x = Told.places(3).runs("name(0, 1)").dueAll(-2, "chain(0, 0)", "chain(1, 1)", "chain(2, 2)");
        for (String p : Told.NO_PLACES) {
            x.dueAll(-1, "chain(" + p + ", 0)", "chain(2, " + p + ")", "chain(" + p + ", " + p + ")");
        }
        new Told().dueAll(-1, "chain(0, 0)", "chain(0, 1)");
    }

    private static void allInOfFew() {
        Check.sentence("ALL IN of n (1 .. 6). BAD: n");
        Told x = new Told().dueAll(-2, "allIn(0)", "allIn(7)", "allIn(-1)", "allIn(LOW)", "allIn(HIGH)");
        x.dueAll(1, "allIn(1)", "allIn(6)").runs("place(0, 0, 0)").dueAll(1, "allIn(1)", "allIn(6)");
        x.runs("place(0, 0, 0)").dueAll(0, "allIn(1)", "allIn(6)").dueAll(-2, "allIn(0)", "allIn(7)");
        x.runs("name(0, 1)").dueAll(1, "allIn(1)", "allIn(6)").dueAll(-2, "allIn(0)", "allIn(7)");
    }

    private static void allInExactly() {
        Check.sentence("ALL IN: any PLACE is at the end of a CHAIN of n or fewer from any other one (1, 0)");
        for (int places = 2; places < 8; places++) {
            Told x = Told.places(places);
            for (int p = 1; p < places; p++) {
                x.runs("name(" + p + ", " + (p - 1) + ")");
            }
            for (int n = 1; n < 7; n++) {
                x.due("allIn(" + n + ")", n >= places - 1 ? 1 : 0);
            }
        }
        Told x = Told.places(7).lands("arms 6");
        namesAllBut(x, 7).due("allIn(1)", 1).runs("strike(0, 6)").due("allIn(1)", 0).due("allIn(2)", 1);
        Told y = namesAllBut(Told.places(6).lands("arms 6"), 6).due("allIn(1)", 1).runs("place(0, 0, 0)");
        y.due("allIn(6)", 0).runs("name(6, 5)").due("allIn(1)", 0).due("allIn(2)", 1);
        Check.sentence("ALL IN: only the first is at no end, only the last");
        Told.places(4).runs("name(1, 2) name(2, 3) name(1, 3)").due("allIn(6)", 0);
        Told.places(4).runs("name(0, 1) name(1, 2) name(0, 2)").due("allIn(6)", 0);
    }

    private static void capitalsAllSuch() {
        Check.sentence("CAPITALS: the PLACES that are named at the most others, as bits (all such)");
        Told x = new Told().due("capitals()", 0);
        for (int p = 1; p < 8; p++) {
            x.runs("place(0, 0, 0)").due("capitals()", (1 << p) - 1);
        }
        x.runs("name(0, 6)").due("capitals()", 65).runs("name(0, 1)").due("capitals()", 1);
        x.runs("name(6, 5)").due("capitals()", 65).runs("name(6, 4)").due("capitals()", 64);
        x.lands("arms 0").due("capitals()", 64).lands("arms 6");
        namesAllBut(x.runs("strike(0, 6) strike(0, 1) strike(6, 5) strike(6, 4)"), 7).due("capitals()", 127);
    }

    private static void newRoadNone() {
        Check.sentence("ROAD: the pair without a ROAD (-5: there is none such pair). NONE: what");
        Told x = new Told().dueAll(-5, "newRoad(1, 0)", "newRoad(1, 1)", "newRoad(99, 0)", "newRoad(99, 1)");
        x.runs("place(0, 0, 0)").dueAll(-5, "newRoad(1, 0)", "newRoad(99, 1)");
        x.runs("place(0, 0, 0)").due("newRoad(1, 0)", 1).due("newRoad(1, 1)", 1996);
        x.dueAll(-1, "newRoad(1, -1)", "newRoad(1, 2)", "newRoad(99, LOW)", "newRoad(99, HIGH)");
        x.runs("road(0, 1, 99)").dueAll(-5, "newRoad(1, 0)", "newRoad(1, 1)");
        Told y = Told.places(7).pairs(7, "road(P, Q, 9)");
        y.dueAll(-5, "newRoad(1, 0)", "newRoad(1, 1)").runs("road(5, 6, 0)").due("newRoad(99, 0)", 56);
        y.due("newRoad(9, 1)", 18).due("newRoad(17, 1)", 2).due("newRoad(18, 1)", 0).due("newRoad(19, 1)", 0);
    }

    private static void newRoadMiles() {
        Check.sentence("ROAD of n MILES (1 .. 99); BAD: n");
        Told x = Told.places(2).due("newRoad(1, 1)", 1996).due("newRoad(99, 1)", 1800).due("newRoad(99, 0)", 1);
        x.dueAll(-2, "newRoad(0, 0)", "newRoad(0, 1)", "newRoad(100, 0)", "newRoad(100, 1)", "newRoad(-1, 0)",
                "newRoad(LOW, 1)", "newRoad(HIGH, 0)");
        Check.sentence("the first that a call's words name: NONE (what) ahead of BAD");
        x.dueAll(-1, "newRoad(0, 2)", "newRoad(100, -1)", "newRoad(LOW, HIGH)");
        new Told().due("newRoad(0, 0)", -2).due("newRoad(100, 1)", -2).due("newRoad(0, 2)", -1);
    }

    private static void newRoadOfSeveral() {
        Check.sentence("ROAD: (of several pairs the first): 10 times the lesser, and the other");
        Told.places(7).due("newRoad(1, 0)", 1).due("newRoad(1, 1)", 1996);
        Told x = BoundsJourneysTest.row(Told.places(4), 1, 1, 1).runs("road(0, 3, 1)");
        // a ring: by 0, 2 or by 1, 3 of one mile 2 is 1, both ways
        x.due("newRoad(1, 0)", 2).due("newRoad(1, 1)", 2).due("newRoad(2, 0)", 2).due("newRoad(2, 1)", 0);
        x.runs("road(0, 2, 99)").due("newRoad(1, 0)", 13).due("newRoad(1, 1)", 2);
        x.runs("road(1, 3, 99)").dueAll(-5, "newRoad(1, 0)", "newRoad(1, 1)");
        Check.sentence("all WAYS, together, are least: not the first, not the last pair");
        Told y = Told.places(7).runs("road(0, 2, 1) road(1, 2, 1) road(2, 3, 50)");
        y.runs("road(3, 4, 50) road(4, 5, 1) road(4, 6, 1)");
        // with 24 the WAYS of 0, 1, 2 to 4, 5, 6 are 99 less each
        y.due("newRoad(1, 0)", 24).due("newRoad(1, 1)", 2 * 9 * 99);
    }

    private static void newRoadFor999() {
        Check.sentence("999 for each that is none (both ways of each pair)");
        Told x = Told.places(3).due("newRoad(50, 1)", 1898).runs("road(0, 1, 10)");
        // 02 and 12 are 999 now; with 02 of 20 they are 20 and 30
        x.due("newRoad(20, 0)", 2).due("newRoad(20, 1)", 2 * (2 * 999 - 50));
        Told y = Told.places(4).runs("road(0, 1, 10) road(2, 3, 20)");
        // with 02 of 5: 02 5, 03 25, 12 15, 13 35
        y.due("newRoad(5, 0)", 2).due("newRoad(5, 1)", 2 * (4 * 999 - 80));
    }

    private static void newRoadLonger() {
        Check.sentence("how much less that is than now: a WAY may be longer than 999");
        Told x = Told.places(3).runs("road(0, 1, 99)").lands("far 99 p<9;".repeat(8) + "far 99 p<9");
        // 01 is 990; with 02 of 99 so is 02, and 12 is 1980: before that both were 999
        x.due("newRoad(99, 0)", 2).due("newRoad(99, 1)", 2 * (2 * 999 - 990 - 1980));
        Check.sentence("with one of that many MILES: LONG and r are of the LAND as it is then");
        Told.places(2).lands("far 20 r=1;far 30 r=0").due("newRoad(7, 1)", 2 * (999 - 27));
        Told y = Told.places(3).runs("road(0, 1, 1)").lands("far 9 r=2");
        // 02: 0 has two, so 01 is 10, 02 is 10, 12 is 20; 12: 1 has two, 12 is 10, 01 stays 1, 02 is 11
        y.due("newRoad(1, 0)", 12).due("newRoad(1, 1)", 2 * (2 * 999 - 21));
    }
}
