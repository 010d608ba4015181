/** Each sentence that names a boundary, of WAY, TOWARD, JOURNEY, GONE, LOST, LONGEST: promises 12 to 17. */
final class BoundsJourneysTest {
    private BoundsJourneysTest() {
    }

    public static void main(String[] args) {
        wayOfOne();
        wayByNone();
        wayIsLeast();
        wayIsLong();
        towardNone();
        towardOfSeveral();
        namedOrRoad();
        placeTheLeast();
        lastTheGreatest();
        nearTheNearest();
        nearWithAWay();
        greatTheMost();
        asking();
        capitalModulo();
        capitalIsHere();
        drownedAboveFour();
        nothingIsNamed();
        noWayToIt();
        nextRefuses();
        twentyRoads();
        goneWhat();
        goneFarthest();
        lostPairs();
        lostTravellers();
        longestNone();
        longestOfSeveral();
        Check.end("BoundsJourneysTest");
    }

    /** ROADS of so many miles from each PLACE to the next one by numbers. */
    static Told row(Told x, int... miles) {
        for (int p = 0; p < miles.length; p++) {
            x.runs("road(" + p + ", " + (p + 1) + ", " + miles[p] + ")");
        }
        return x;
    }

    private static void refusesNoPlaces(Told x, String call, String end) {
        for (String p : Told.NO_PLACES) {
            x.dueAll(-1, call + "(" + p + ", 0" + end, call + "(2, " + p + end, call + "(" + p + ", " + p + end);
        }
        new Told().dueAll(-1, call + "(0, 0" + end, call + "(0, 1" + end);
    }

    private static void wayOfOne() {
        Check.sentence("WAY (0: one PLACE; -5: by none). NONE");
        Told x = Told.places(3).dueAll(0, "way(0, 0)", "way(2, 2)");
        x.runs("road(0, 2, 1)").lands("far 9 p<9;great 9 p<9");
        x.dueAll(0, "way(0, 0)", "way(1, 1)", "way(2, 2)").due("way(0, 2)", 10);
        refusesNoPlaces(x, "way", ")");
    }

    private static void wayByNone() {
        Check.sentence("WAY (-5: by none)");
        Told x = Told.places(7).dueAll(-5, "way(0, 1)", "way(0, 6)", "way(6, 5)");
        row(x, 1, 1, 1).runs("road(4, 5, 1) road(5, 6, 1)");
        x.dueAll(-5, "way(0, 4)", "way(6, 3)").due("way(0, 3)", 3).due("way(6, 4)", 2);
        x.runs("road(3, 4, 99)").due("way(0, 6)", 104).runs("road(3, 4, 0)").due("way(0, 6)", -5);
    }

    private static void wayIsLeast() {
        Check.sentence("WAY of two PLACES: the least LONG, together, of ROADS");
        Told x = row(Told.places(7), 1, 1, 1, 1, 1, 1).runs("road(0, 6, 7)");
        x.due("way(0, 6)", 6).due("way(6, 0)", 6);
        x.runs("road(0, 6, 5)").due("way(0, 6)", 5).due("way(1, 6)", 5).due("way(0, 5)", 5).due("way(1, 5)", 4);
    }

    private static void wayIsLong() {
        Check.sentence("LONG, together: the longest WAY there can be");
        Told x = row(Told.places(7), 99, 99, 99, 99, 99, 99).lands("far 99 p<9;".repeat(8) + "far 99 p<9");
        x.due("far(5, 6)", 990).due("way(0, 6)", 5940).due("way(6, 0)", 5940).due("toward(0, 6)", 1);
        x.runs("road(0, 6, 99)").due("way(0, 6)", 990).due("way(0, 4)", 2970);
    }

    private static void towardNone() {
        Check.sentence("TOWARD (-5: none, or one PLACE). NONE");
        Told x = Told.places(3).dueAll(-5, "toward(0, 0)", "toward(2, 2)", "toward(0, 2)", "toward(2, 0)");
        x.runs("road(0, 1, 1)").dueAll(-5, "toward(0, 0)", "toward(1, 1)", "toward(0, 2)", "toward(2, 1)");
        x.due("toward(0, 1)", 1).due("toward(1, 0)", 0);
        refusesNoPlaces(x, "toward", ")");
    }

    private static void towardOfSeveral() {
        Check.sentence("TOWARD (of several ways the least PLACE)");
        Told x = Told.places(7).runs("road(0, 6, 2) road(0, 1, 1) road(1, 6, 1) road(0, 5, 1) road(5, 6, 1)");
        x.due("toward(0, 6)", 1).due("toward(6, 0)", 0);
        x.runs("road(0, 6, 1)").due("toward(0, 6)", 6).due("toward(6, 0)", 0);
        x.runs("road(0, 6, 3)").due("toward(0, 6)", 1).due("toward(6, 0)", 1);
        x.runs("road(1, 6, 2)").due("toward(0, 6)", 5).due("toward(6, 0)", 5);
        x.runs("road(5, 6, 2)").due("toward(0, 6)", 1).due("toward(6, 0)", 0);
    }

    /** 7 PLACES: a post 3 of a KIND and v, with a ROAD of a mile to each but the one to which one wants. */
    private static Told post(int kind, int v, int to, int... named) {
        Told x = new Told().runs("place(0, 0, 0) ".repeat(3) + "place(" + kind + ", " + v + ", 0) "
                + "place(0, 0, 0) ".repeat(3));
        for (int p = 0; p < 7; p++) {
            if (p != 3 && p != to) {
                x.runs("road(3, " + p + ", 1)");
            }
        }
        for (int p : named) {
            x.runs("name(3, " + p + ")");
        }
        return x;
    }

    private static void namedOrRoad() {
        Check.sentence("At a PLACE where that one is named, or which has a ROAD to it: TOWARD it");
        for (int kind = 0; kind < 7; kind++) {
            // where all KINDS would go TOWARD another one, or nowhere
            post(kind, 0, 6, 2).due("next(3, 1)", 1).due("next(3, 2)", 2);
            Told x = post(kind, 4, 6, 2, 6).due("next(3, 6)", -5);
            x.runs("road(5, 6, 1)").due("next(3, 6)", 5).runs("strike(3, 6) road(3, 6, 3)").due("next(3, 6)", 5);
            x.runs("road(3, 6, 2)").due("next(3, 6)", 5).runs("road(3, 6, 1)").due("next(3, 6)", 6);
        }
    }

    private static void placeTheLeast() {
        Check.sentence("PLACE: the least PLACE that is named here");
        post(0, 0, 6, 0).due("next(3, 6)", 0);
        post(0, 0, 6, 5, 1, 0, 4).due("next(3, 6)", 0);
        post(0, 0, 6, 5, 4).due("next(3, 6)", 4);
        post(0, 0, 0, 6).due("next(3, 0)", 6);
        post(0, 9, 0, 6, 5, 4, 2).due("next(3, 0)", 2);
    }

    private static void lastTheGreatest() {
        Check.sentence("LAST: the greatest one that is named");
        post(3, 0, 0, 6).due("next(3, 0)", 6);
        post(3, 0, 0, 1, 6, 5, 2).due("next(3, 0)", 6);
        post(3, 0, 0, 2, 1).due("next(3, 0)", 2);
        post(3, 0, 6, 0).due("next(3, 6)", 0);
        post(3, 9, 6, 0, 1, 2, 4).due("next(3, 6)", 4);
    }

    private static void nearTheNearest() {
        Check.sentence("NEAR: that to which it is least (of several the least)");
        post(1, 0, 6, 5, 4, 0).due("next(3, 6)", 0);
        post(1, 0, 6, 5, 4).due("next(3, 6)", 4);
        post(1, 0, 6, 5, 4).runs("road(3, 4, 2)").due("next(3, 6)", 5);
        post(1, 0, 6, 5, 4, 0).runs("road(3, 4, 3) road(3, 5, 3) road(3, 0, 4)").due("next(3, 6)", 4);
        post(1, 0, 6, 0, 5).runs("road(3, 0, 99) road(3, 5, 98)").due("next(3, 6)", 5);
        Told x = post(1, 0, 6, 0, 5).runs("road(3, 0, 5) road(3, 5, 6)").due("next(3, 6)", 0);
        // LONG of 3, 0 is by 0, of 3, 5 by 3
        x.lands("far 1 p=0").due("next(3, 6)", 0).lands("far 2 p=0").due("next(3, 6)", 5);
    }

    private static void nearWithAWay() {
        Check.sentence("NEAR: that of those named, and to which there is a WAY");
        Told x = post(1, 0, 6, 0, 5).runs("road(3, 5, 99)").due("next(3, 6)", 0);
        x.runs("road(3, 0, 0)").due("next(3, 6)", 5).runs("road(3, 5, 0)").due("next(3, 6)", -5);
        x.runs("road(0, 5, 1) road(5, 4, 2)").due("next(3, 6)", 4);
        x.runs("strike(3, 0) strike(3, 5)").due("next(3, 6)", -5);
    }

    private static void greatTheMost() {
        Check.sentence("GREAT: that with the most SIZE (of several the least)");
        post(2, 0, 6, 5, 4, 0).due("next(3, 6)", 0);
        Told x = post(2, 0, 6, 5, 4, 1).lands("great 1 p=5").due("next(3, 6)", 5);
        x.lands("great 1 p=5|p=4").due("next(3, 6)", 4).lands("great 1 p=0").due("next(3, 6)", 1);
        x.lands("great 98 p=5;great 99 p=4").due("next(3, 6)", 4).lands("great 99 p<9").due("next(3, 6)", 1);
        Told y = new Told().runs("place(2, 0, 0) place(0, 0, 98) place(0, 0, 99) place(0, 0, 0)");
        y.runs("road(0, 1, 1) road(0, 2, 1) name(0, 1) name(0, 2)").due("next(0, 3)", 2);
        y.lands("great 1 p=1").due("next(0, 3)", 1);
    }

    private static void asking() {
        Check.sentence("ASKING: where one wants to; ASKING needs no names");
        Told x = row(Told.kinds(0, 0, 4, 0, 0), 1, 1, 1).due("next(2, 0)", 1).due("next(2, 4)", -5);
        x.runs("name(2, 0)").due("next(2, 4)", -5).runs("road(3, 4, 1)").due("next(2, 4)", 3);
        Told.kinds(4, 4).dueAll(-5, "next(0, 1)", "next(1, 0)");
    }

    private static void capitalModulo() {
        Check.sentence("CAPITAL: v modulo how many PLACES there are");
        post(5, 0, 6).due("next(3, 6)", 0);
        post(5, 2, 6).due("next(3, 6)", 2);
        post(5, 6, 0).due("next(3, 0)", 6);
        post(5, 7, 6).due("next(3, 6)", 0);
        post(5, 8, 6).due("next(3, 6)", 1);
        post(5, 9, 6).due("next(3, 6)", 2);
        post(5, 6, 6).due("next(3, 6)", -5);
        Check.sentence("how many PLACES there are: one more changes it");
        Told x = new Told().runs("place(5, 8, 0) place(0, 0, 0) place(0, 0, 0) road(0, 2, 1)").due("next(0, 1)", 2);
        x.runs("place(0, 0, 0)").due("next(0, 1)", -5);
        x.runs("place(0, 0, 0) road(0, 3, 1)").due("next(0, 1)", 3).due("next(0, 4)", 3);
        new Told().runs("place(5, 9, 0) place(5, 9, 0) road(0, 1, 1)").due("next(0, 1)", 1).due("next(1, 0)", 0);
    }

    private static void capitalIsHere() {
        Check.sentence("CAPITAL: if that is not this one, else as GREAT");
        post(5, 3, 6, 5, 4).due("next(3, 6)", 4);
        post(5, 3, 6, 5, 4).lands("great 1 p=5").due("next(3, 6)", 5);
        post(5, 3, 6).due("next(3, 6)", -5);
        post(5, 4, 6, 5).due("next(3, 6)", 4);
        post(5, 2, 6, 5).due("next(3, 6)", 2);
        Told x = new Told().runs("place(5, 7, 0) place(0, 0, 0) place(0, 0, 0) place(0, 0, 0)");
        x.runs("road(0, 1, 1) road(0, 2, 1) name(0, 2)").due("next(0, 3)", -5);
        x.runs("road(0, 3, 1) place(0, 0, 0)").due("next(0, 4)", 2);
        x.runs("place(0, 0, 0)").due("next(0, 4)", 1).runs("place(0, 0, 0)").due("next(0, 4)", 2);
    }

    private static void drownedAboveFour() {
        Check.sentence("DROWNED: as LAST, if v is above 4; else nowhere");
        for (int v = 0; v < 10; v++) {
            post(6, v, 6, 0, 5).due("next(3, 6)", v > 4 ? 5 : -5).due("next(3, 1)", 1).due("next(3, 0)", 0);
            post(6, v, 6).due("next(3, 6)", -5);
        }
    }

    private static void nothingIsNamed() {
        Check.sentence("If nothing is named, nowhere (but ASKING, CAPITAL need no names)");
        for (int kind = 0; kind < 7; kind++) {
            Told x = post(kind, 5, 6).runs("road(5, 6, 1)").due("next(3, 6)", kind == 4 || kind == 5 ? 5 : -5);
            x.runs("name(4, 5)").due("next(3, 6)", kind == 4 || kind == 5 ? 5 : -5);
        }
    }

    private static void noWayToIt() {
        Check.sentence("or there is no WAY to it, nowhere");
        for (int kind = 0; kind < 7; kind++) {
            // v 5: CAPITAL 5; all else go TOWARD 5, as it alone is named (ASKING: TOWARD 6)
            Told x = post(kind, 5, 6, 5).due("next(3, 6)", kind == 4 ? -5 : 5);
            x.runs("road(3, 5, 0)").due("next(3, 6)", -5);
        }
        Check.sentence("no WAY to the one that the KIND chooses, though there is one to another");
        post(0, 0, 6, 0, 5).runs("road(3, 0, 0)").due("next(3, 6)", -5);
        post(2, 0, 6, 0, 5).runs("road(3, 0, 0)").due("next(3, 6)", -5);
        post(3, 0, 6, 0, 5).runs("road(3, 5, 0)").due("next(3, 6)", -5);
        post(5, 1, 6, 0, 5).runs("road(3, 1, 0)").due("next(3, 6)", -5);
        post(5, 3, 6, 0, 5).runs("road(3, 0, 0)").due("next(3, 6)", -5);
        post(6, 5, 6, 0, 5).runs("road(3, 5, 0)").due("next(3, 6)", -5);
    }

    private static void nextRefuses() {
        Check.sentence("next: NONE; BAD: one PLACE");
        Told x = Told.places(3).runs("road(0, 1, 1)").dueAll(-2, "next(0, 0)", "next(1, 1)", "next(2, 2)");
        refusesNoPlaces(x, "next", ")");
    }

    /** So many CAPITALS that send round, each to the one behind it; the last PLACE is not to be found. */
    private static Told round(int many) {
        Told x = new Told();
        for (int p = 0; p < many; p++) {
            x.runs("place(5, " + (p + 1) % many + ", 0)");
        }
        x.runs("place(0, 0, 0)");
        for (int p = 0; p < many; p++) {
            x.runs("road(" + p + ", " + (p + 1) % many + ", 99)");
        }
        return x;
    }

    private static void twentyRoads() {
        Check.sentence("Who has gone by 20 ROADS without being there, is LOST");
        for (int many = 2; many < 7; many++) {
            Told x = round(many);
            for (int p = 0; p < many; p++) {
                x.runs("traveller(" + p + ", " + many + ", " + (p + 1) + ")");
                x.due("gone(" + p + ", " + many + ", 0)", -5).due("gone(" + p + ", " + many + ", 1)", -5);
            }
            // by the 20th ROAD one comes to the PLACE 20 behind the one where one began
            for (int p = 0; p < many; p++) {
                x.due("gets(" + (p + 20) % many + ")", p + 1);
            }
            x.due("gets(" + many + ")", 0).due("lost(0)", many * (many + 1) / 2);
        }
        Check.sentence("Who goes nowhere is LOST");
        Told.places(2).runs("traveller(0, 1, 9)").due("gone(0, 1, 0)", -5).due("gets(0)", 9).due("gets(1)", 0);
    }

    private static void goneWhat() {
        Check.sentence("GONE: what 0 how far, 1 how many ROADS; -5: LOST. NONE; BAD: one PLACE");
        Told x = Told.places(3).runs("road(0, 1, 99)").due("gone(0, 1, 0)", 99).due("gone(0, 1, 1)", 1);
        x.dueAll(-5, "gone(0, 2, 0)", "gone(0, 2, 1)", "gone(2, 1, 0)");
        x.dueAll(-1, "gone(0, 1, -1)", "gone(0, 1, 2)", "gone(0, 1, LOW)", "gone(0, 1, HIGH)", "gone(0, 2, 2)");
        x.dueAll(-2, "gone(0, 0, 0)", "gone(2, 2, 1)");
        refusesNoPlaces(x, "gone", ", 0)");
        Check.sentence("the first that a call's words name: NONE (what) ahead of BAD");
        x.dueAll(-1, "gone(0, 0, 2)", "gone(2, 2, -1)", "gone(3, 3, 0)", "gone(-1, -1, 9)");
    }

    private static void goneFarthest() {
        Check.sentence("GONE: the LONG of all ROADS, together; how many these are: six ROADS");
        Told x = row(Told.kinds(4, 4, 4, 4, 4, 4, 4), 99, 99, 99, 99, 99, 99);
        x.due("gone(0, 6, 0)", 594).due("gone(0, 6, 1)", 6).due("gone(6, 0, 0)", 594).due("gone(6, 5, 1)", 1);
        x.lands("far 99 p<9;".repeat(8) + "far 99 p<9").due("gone(0, 6, 0)", 5940).due("gone(6, 0, 1)", 6);
        Check.sentence("GONE of a JOURNEY, not of the WAY");
        // 0 sends who wants to 3 TOWARD 1, which asks and sends them back by 0, TOWARD 2: so 0 again, LOST
        Told y = Told.kinds(0, 4, 0, 0).runs("road(0, 1, 7) road(0, 2, 1) road(2, 3, 1) name(0, 1)");
        y.due("way(0, 3)", 2).due("gone(0, 3, 0)", -5);
        // with a long ROAD from 1 to 3 that one is gone by, as 1 has a ROAD to 3, and TOWARD 3 is that ROAD
        y.runs("road(1, 3, 8)").due("way(0, 3)", 2).due("gone(0, 3, 0)", 15).due("gone(0, 3, 1)", 2);
    }

    private static void lostPairs() {
        Check.sentence("how many pairs of unlike PLACES (both ways) there are such that a JOURNEY is LOST. NONE");
        Told x = new Told().dueAll(0, "lost(0)", "lost(1)");
        x.dueAll(-1, "lost(-1)", "lost(2)", "lost(LOW)", "lost(HIGH)");
        for (int p = 0; p < 7; p++) {
            x.runs("place(0, 0, 0)").due("lost(1)", p * (p + 1)).due("lost(0)", 0);
        }
        x.runs("road(5, 6, 1)").due("lost(1)", 40).runs("road(4, 5, 1)").due("lost(1)", 38);
        x.runs("name(4, 6)").due("lost(1)", 36).dueAll(-1, "lost(-1)", "lost(2)");
        row(Told.kinds(4, 4, 4, 4, 4, 4, 4), 1, 1, 1, 1, 1, 1).due("lost(1)", 0);
    }

    private static void lostTravellers() {
        Check.sentence("how many of MANY of TRAVELLERS are LOST: none, all, some");
        Told x = Told.places(3).runs("road(0, 1, 1)").due("lost(0)", 0);
        x.runs("traveller(0, 1, 99) traveller(1, 0, 99)").due("lost(0)", 0);
        x.runs("traveller(0, 2, 1)").due("lost(0)", 1).runs("traveller(2, 0, 99)").due("lost(0)", 100);
        x.runs("traveller(0, 2, 1)").due("lost(0)", 101).runs("road(1, 0, 0)").due("lost(0)", 299);
        x.runs("road(0, 1, 1) road(1, 2, 1) road(0, 2, 1)").due("lost(0)", 0);
    }

    private static void longestNone() {
        Check.sentence("LONGEST: the greatest LONG (0: none); its FROM, TO (-5). NONE");
        Told x = new Told().due("longest(0)", 0).due("longest(1)", -5);
        x.runs("place(0, 0, 0)").due("longest(0)", 0).due("longest(1)", -5);
        x.runs("place(0, 0, 0)").due("longest(0)", 0).due("longest(1)", -5);
        x.dueAll(-1, "longest(-1)", "longest(2)", "longest(LOW)", "longest(HIGH)");
        x.runs("road(0, 1, 1)").due("longest(0)", 1).due("longest(1)", 1);
        x.runs("road(0, 1, 0)").due("longest(0)", 0).due("longest(1)", -5);
        Check.sentence("of all JOURNEYS that are not LOST: a longer one that is LOST does not count");
        Told y = Told.places(4).runs("road(0, 1, 99) road(1, 2, 99) road(2, 3, 98)").due("longest(0)", 99);
        y.due("longest(1)", 1).runs("road(0, 1, 98)").due("longest(1)", 12).due("longest(0)", 99);
    }

    private static void longestOfSeveral() {
        Check.sentence("(of several the first by FROM, then TO): 10 times FROM, and TO");
        Told x = Told.places(7).pairs(7, "road(P, Q, 50)");
        x.due("longest(1)", 1).due("longest(0)", 50).runs("road(0, 1, 49)").due("longest(1)", 2);
        x.runs("road(5, 6, 51)").due("longest(1)", 56).due("longest(0)", 51);
        x.runs("road(2, 6, 51)").due("longest(1)", 26).runs("road(2, 4, 51)").due("longest(1)", 24);
        x.runs("road(0, 6, 51)").due("longest(1)", 6);
        Check.sentence("its FROM, TO: the last pair, as the way back is LOST");
        Told y = Told.kinds(0, 0, 0, 0, 0, 0, 4).runs("road(6, 4, 1) road(4, 5, 1)");
        y.due("longest(0)", 2).due("longest(1)", 65).runs("road(4, 5, 0) road(4, 0, 1)").due("longest(1)", 60);
    }
}
