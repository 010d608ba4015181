/** Each sentence that names a boundary, of PLACES, ROADS, NAMES, TRAVELLERS: Terms 1, promises 1 to 8. */
final class BoundsPlacesTest {
    private BoundsPlacesTest() {
    }

    public static void main(String[] args) {
        newObject();
        calls512();
        placesAreSeven();
        kindsAreSeven();
        vIsADigit();
        people();
        placeRefusesInOrder();
        ofWhat();
        ofBits();
        miles();
        milesOfOnePlace();
        farIsNoRoad();
        namesNone();
        nameRefuses();
        namesFull();
        namesOrMoreThanArms();
        strikes();
        travellersAreEight();
        many();
        travellerRefuses();
        Check.end("BoundsPlacesTest");
    }

    private static void newObject() {
        Check.sentence("NamesBack(): No PLACES, no LAND");
        Told x = new Told();
        x.dueAll(0, "count(0)", "count(1)", "count(2)", "count(3)", "count(4)", "count(5)", "told(1)");
        x.dueAll(-1, "of(0, 0)", "far(0, 0)", "way(0, 0)", "toward(0, 0)", "gets(0)", "looked(0)", "trace(0)");
        x.due("told(0)", 4).due("undo()", -3);
        x.dueAll(-11, "item(0, 0, 1)", "item(5, 0, 1)", "taken(0, 0)");
        x.due("place(0, 0, 0)", 0).dueLand("arms 1", 0);
    }

    private static void calls512() {
        Check.sentence("An object is used for at most 512 calls");
        Told x = Told.places(2).runs("road(0, 1, 7)");
        for (int k = 0; k < 500; k++) {
            x.due("put(1)", 0);
        }
        x.due("place(3, 9, 99)", 2).due("road(1, 2, 99)", 0).due("name(0, 2)", 1).due("traveller(0, 2, 99)", 0);
        x.due("image()", 3).due("undo()", 3).due("tape(5, 3, 60)", 1).due("act(2, 2, 1)", -18);
        Check.due("calls", x.calls(), 511);
        x.due("gone(0, 2, 0)", 106);
    }

    private static void placesAreSeven() {
        Check.sentence("PLACES 0 .. 6, as they come; FULL: 7");
        Told x = new Told();
        for (int p = 0; p < 7; p++) {
            x.due("count(0)", p).due("of(" + p + ", 0)", -1).due("place(0, 0, 0)", p).due("of(" + p + ", 0)", 0);
        }
        x.dueAll(-4, "place(0, 0, 0)", "place(6, 9, 99)").due("count(0)", 7);
        x.dueAll(-1, "of(7, 0)", "of(-1, 0)");
    }

    private static void kindsAreSeven() {
        Check.sentence("KINDS: 0 PLACE .. 6 DROWNED; NONE: kind");
        Told x = new Told();
        x.dueAll(-1, "place(-1, 0, 0)", "place(7, 0, 0)", "place(LOW, 0, 0)", "place(HIGH, 0, 0)", "place(-2, 0, 0)");
        x.due("count(0)", 0).due("place(0, 0, 0)", 0).due("place(6, 0, 0)", 1);
        x.due("of(0, 0)", 0).due("of(1, 0)", 6);
    }

    private static void vIsADigit() {
        Check.sentence("a number v (0 .. 9); BAD: v");
        Told x = new Told();
        x.dueAll(-2, "place(0, -1, 0)", "place(0, 10, 0)", "place(6, LOW, 0)", "place(6, HIGH, 0)").due("count(0)", 0);
        x.due("place(0, 0, 5)", 0).due("place(0, 9, 5)", 1).due("of(0, 1)", 0).due("of(1, 1)", 9);
    }

    private static void people() {
        Check.sentence("PEOPLE (0 .. 99); BAD: people");
        Told x = new Told();
        x.dueAll(-2, "place(0, 5, -1)", "place(0, 5, 100)", "place(6, 5, LOW)", "place(6, 5, HIGH)").due("count(0)", 0);
        x.due("place(0, 5, 0)", 0).due("place(0, 5, 99)", 1).due("of(0, 2)", 0).due("of(1, 2)", 99);
        x.due("of(0, 3)", 0).due("of(1, 3)", 99);
    }

    private static void placeRefusesInOrder() {
        Check.sentence("the first that a call's words name: NONE: kind; BAD: v, people; FULL: 7");
        Told x = Told.places(7);
        x.dueAll(-1, "place(7, 10, 100)", "place(-1, 0, 0)", "place(7, 0, 100)");
        x.dueAll(-2, "place(0, 10, 0)", "place(0, 0, 100)", "place(6, -1, -1)");
        x.due("place(6, 9, 99)", -4);
    }

    private static void ofWhat() {
        Check.sentence("Of a PLACE what 0 KIND .. 5 to where it has ROADS. NONE");
        Told x = new Told().runs("place(1, 0, 3) place(2, 4, 5) place(3, 9, 7)");
        x.due("of(0, 0)", 1).due("of(2, 0)", 3).due("of(2, 1)", 9).due("of(2, 2)", 7).due("of(2, 3)", 7);
        x.due("of(2, 4)", 0).due("of(2, 5)", 0);
        x.dueAll(-1, "of(0, -1)", "of(0, 6)", "of(2, LOW)", "of(2, HIGH)");
        for (String p : Told.NO_PLACES) {
            x.dueAll(-1, "of(" + p + ", 0)", "of(" + p + ", 5)", "of(" + p + ", 6)");
        }
    }

    private static void ofBits() {
        Check.sentence("4 what it names (bits), 5 to where it has ROADS (bits): none, one, all");
        Told x = Told.places(7).lands("arms 6");
        x.dueAll(0, "of(0, 4)", "of(6, 4)", "of(0, 5)", "of(6, 5)");
        x.runs("name(0, 6) road(0, 6, 1)");
        x.due("of(0, 4)", 64).due("of(6, 4)", 1).due("of(0, 5)", 64).due("of(6, 5)", 1).due("of(3, 4)", 0);
        for (int p = 0; p < 7; p++) {
            for (int q = p + 1; q < 7; q++) {
                x.runs("road(" + p + ", " + q + ", 99)");
                if (p + q != 6 || p > 0) {
                    x.runs("name(" + q + ", " + p + ")");
                }
            }
        }
        x.due("of(0, 4)", 126).due("of(6, 4)", 63).due("of(3, 4)", 119);
        x.due("of(0, 5)", 126).due("of(6, 5)", 63).due("of(3, 5)", 119);
    }

    private static void miles() {
        Check.sentence("A ROAD between two PLACES: MILES 1 .. 99, or none (at first), both ways");
        Told x = Told.places(7);
        x.due("far(0, 6)", 0).due("road(0, 6, 0)", 0).due("road(0, 6, 1)", 0).due("far(0, 6)", 1).due("far(6, 0)", 1);
        x.dueAll(-2, "road(0, 6, -1)", "road(0, 6, 100)", "road(6, 0, LOW)", "road(6, 0, HIGH)").due("far(0, 6)", 1);
        x.due("road(6, 0, 99)", 1).due("far(0, 6)", 99).due("far(6, 0)", 99);
        Check.sentence("A ROAD has MILES (0: there is none): how many it had (0)");
        x.due("road(0, 6, 0)", 99).due("far(6, 0)", 0).due("of(0, 5)", 0).due("of(6, 5)", 0).due("way(0, 6)", -5);
        x.due("road(6, 0, 0)", 0).due("road(6, 0, 50)", 0).due("road(0, 6, 50)", 50);
        x.dueAll(0, "far(0, 1)", "far(5, 6)", "road(5, 6, 1)");
    }

    private static void milesOfOnePlace() {
        Check.sentence("road: NONE; BAD: one PLACE, miles (0 .. 99)");
        Told x = Told.places(3);
        x.dueAll(-2, "road(0, 0, 0)", "road(0, 0, 5)", "road(2, 2, 99)", "road(2, 2, 100)", "road(1, 1, -1)");
        for (String p : Told.NO_PLACES) {
            x.dueAll(-1, "road(" + p + ", 0, 5)", "road(0, " + p + ", 5)", "road(" + p + ", " + p + ", 5)",
                    "road(2, " + p + ", 100)", "road(" + p + ", 2, -1)");
        }
        x.dueAll(0, "of(0, 5)", "of(1, 5)", "of(2, 5)");
        new Told().dueAll(-1, "road(0, 0, 5)", "road(0, 1, 100)");
    }

    private static void farIsNoRoad() {
        Check.sentence("LONG of a ROAD (0: there is none). NONE");
        Told x = Told.places(3).runs("road(0, 1, 1)").lands("far 99 p<9;great 99 p<9");
        x.due("far(0, 1)", 100).due("far(1, 0)", 100);
        x.dueAll(0, "far(0, 2)", "far(2, 1)", "far(0, 0)", "far(2, 2)");
        x.runs("road(0, 1, 0)").due("far(0, 1)", 0);
        for (String p : Told.NO_PLACES) {
            x.dueAll(-1, "far(" + p + ", 0)", "far(2, " + p + ")", "far(" + p + ", " + p + ")");
        }
    }

    private static void namesNone() {
        Check.sentence("NAMES: pairs of PLACES, each of which names the other (none at first)");
        Told x = Told.places(7);
        x.dueAll(0, "told(1)", "of(0, 4)", "of(6, 4)").dueAll(-3, "strike(0, 6)", "strike(6, 0)");
        x.due("name(0, 6)", 1).due("of(0, 4)", 64).due("of(6, 4)", 1).due("told(1)", 1);
        x.due("strike(6, 0)", 0).dueAll(0, "of(0, 4)", "of(6, 4)", "told(1)");
    }

    private static void nameRefuses() {
        Check.sentence("name: NONE; BAD: one PLACE; STATE: they do; FULL");
        Told x = Told.places(3).runs("name(0, 1)");
        x.dueAll(-2, "name(0, 0)", "name(2, 2)");
        x.dueAll(-3, "name(0, 1)", "name(1, 0)");
        for (String p : Told.NO_PLACES) {
            x.dueAll(-1, "name(" + p + ", 0)", "name(2, " + p + ")", "name(" + p + ", " + p + ")");
        }
        x.due("told(1)", 1);
        Check.sentence("the first that a call's words name: BAD, STATE ahead of FULL");
        x.lands("arms 0").dueAll(-3, "name(0, 1)", "name(1, 0)").dueAll(-2, "name(0, 0)", "name(2, 2)");
        x.dueAll(-4, "name(0, 2)", "name(2, 1)").due("name(3, 3)", -1);
        new Told().dueAll(-1, "name(0, 0)", "name(0, 1)");
    }

    /** With so many arms the one's, and the other's, last name is taken, and the next one is not. */
    private static void namesFull() {
        for (int arms = 0; arms < 8; arms++) {
            Check.sentence("FULL: one of them names as many as arms (" + arms + ")");
            Told x = Told.places(7).lands("arms " + arms);
            Told y = Told.places(7).lands("arms " + arms);
            for (int p = 1; p < 7; p++) {
                boolean free = p <= arms;
                x.due("name(0, " + p + ")", free ? p : -4).due("of(0, 4)", (1 << Math.min(p, arms) + 1) - 2);
                y.due("name(" + p + ", 0)", free ? 1 : -4).due("told(1)", Math.min(p, arms));
            }
        }
        Check.sentence("arms (4 without)");
        Told x = Told.places(7).runs("name(0, 1) name(0, 2) name(0, 3)");
        x.due("name(4, 0)", 1).dueAll(-4, "name(0, 5)", "name(6, 0)").due("told(1)", 4);
        x.due("strike(0, 2)", 3).due("name(0, 6)", 4).due("name(2, 0)", -4).due("of(0, 4)", 90);
    }

    private static void namesOrMoreThanArms() {
        Check.sentence("FULL: one of them names as many as arms, or more");
        Told x = Told.places(6).runs("name(0, 1) name(0, 2) name(0, 3)").lands("arms 2");
        x.due("told(1)", 3).dueAll(-4, "name(0, 4)", "name(4, 0)");
        x.due("strike(0, 1)", 2).dueAll(-4, "name(0, 4)", "name(4, 0)");
        x.due("strike(0, 2)", 1).due("name(4, 0)", 1).due("of(0, 4)", 24);
        x.lands("arms 99").due("name(0, 5)", 3);
    }

    private static void strikes() {
        Check.sentence("They name each other no more: how many the one names then. NONE; STATE: they do not");
        Told x = Told.places(3).runs("name(0, 1) name(0, 2)");
        for (String p : Told.NO_PLACES) {
            x.dueAll(-1, "strike(" + p + ", 0)", "strike(2, " + p + ")", "strike(" + p + ", " + p + ")");
        }
        x.dueAll(-3, "strike(1, 2)", "strike(2, 1)", "strike(0, 0)", "strike(2, 2)").due("told(1)", 2);
        x.due("strike(0, 2)", 1).due("strike(0, 2)", -3).due("strike(1, 0)", 0).due("strike(0, 1)", -3);
        x.due("told(1)", 0);
        Check.sentence("arms do not matter to a strike");
        x.runs("name(0, 1)").lands("arms 0").due("strike(0, 1)", 0);
    }

    private static void travellersAreEight() {
        Check.sentence("TRAVELLERS 0 .. 7, as they come; FULL: 8");
        Told x = Told.places(2);
        for (int t = 0; t < 8; t++) {
            x.due("count(2)", t).due("traveller(" + t % 2 + ", " + (1 - t % 2) + ", 99)", t);
        }
        x.dueAll(-4, "traveller(0, 1, 1)", "traveller(1, 0, 99)").due("count(2)", 8).due("lost(0)", 792);
        Check.sentence("the first that a call's words name: NONE, BAD ahead of FULL");
        x.dueAll(-2, "traveller(0, 0, 1)", "traveller(0, 1, 0)", "traveller(1, 0, 100)");
        x.dueAll(-1, "traveller(0, 2, 1)", "traveller(2, 2, 0)");
    }

    private static void many() {
        Check.sentence("how MANY (1 .. 99); BAD: many");
        Told x = Told.places(2);
        x.dueAll(-2, "traveller(0, 1, 0)", "traveller(0, 1, 100)", "traveller(0, 1, -1)", "traveller(1, 0, LOW)",
                "traveller(1, 0, HIGH)");
        x.due("count(2)", 0).due("lost(0)", 0);
        x.due("traveller(0, 1, 1)", 0).due("lost(0)", 1).due("traveller(1, 0, 99)", 1).due("lost(0)", 100);
    }

    private static void travellerRefuses() {
        Check.sentence("traveller: NONE: places; BAD: one PLACE");
        Told x = Told.places(3);
        for (String p : Told.NO_PLACES) {
            x.dueAll(-1, "traveller(" + p + ", 0, 1)", "traveller(2, " + p + ", 1)",
                    "traveller(" + p + ", " + p + ", 0)", "traveller(0, " + p + ", 100)");
        }
        x.dueAll(-2, "traveller(0, 0, 1)", "traveller(2, 2, 99)").due("count(2)", 0);
        new Told().due("traveller(0, 0, 1)", -1);
    }
}
