import java.util.HashMap;
import java.util.List;
import java.util.Map;

/**
 * "What is answered so changes nothing; what is asked changes nothing": each refused call, and each asking one, on an
 * object; all that can be seen of it then is as of another one that was made alike, without that call.
 */
final class RefusedTest {
    private static final Map<String, List<String>> WHOLE = new HashMap<>();

    private RefusedTest() {
    }

    public static void main(String[] args) {
        refusesOnNone();
        refusesPlaces();
        refusesNames();
        refusesWhat();
        refusesTapes();
        refusesFull();
        asks();
        changes();
        Check.end("RefusedTest");
    }

    private static Told make(String house) {
        switch (house) {
            case "none": return new Told();
            case "some": return some();
            default: return full();
        }
    }

    /** Four PLACES and, behind an image of them, a fifth; arms that are all used at 0 and 1; half a text. */
    private static Told some() {
        Told x = new Told().runs("place(0, 3, 12) place(2, 7, 99) place(4, 1, 50) place(5, 2, 7)");
        x.runs("road(0, 1, 5) road(1, 2, 9) name(0, 1) name(0, 2) traveller(0, 3, 10) traveller(3, 0, 20)");
        x.runs("book(0) book(1) book(2) tape(0, 2, 3) item(0, 0, 17) item(0, 2, -5) tape(1, 0, 2) item(1, 1, 9)");
        x.runs("tape(2, 4, 2) item(2, 0, 1) tape(3, 3, 0) tape(4, 2, 2)").lands("arms 2;great 5 p=0");
        x.runs("image() place(6, 5, 30) name(1, 3) road(3, 4, 2) traveller(4, 1, 7) book(3)");
        return x.feeds("great 9 p<9").runs("act(4, 2, 5)");
    }

    /** All that may be, up to its bound; the text is of 100 signs. */
    private static Told full() {
        Told x = new Told();
        for (int p = 0; p < 7; p++) {
            x.runs("place(" + p + ", " + (9 - p) + ", " + 14 * p + ")");
        }
        for (int k = 0; k < 6; k++) {
            x.lands(k < 5 ? "arms 9" : "arms 3;far 2 r>1");
        }
        x.runs("road(0, 1, 4) road(1, 2, 9) road(2, 3, 1) road(3, 4, 7) road(4, 5, 2) image()");
        x.runs("road(5, 6, 3) road(0, 3, 8)");
        x.runs("name(0, 2) name(0, 4) name(0, 6) name(1, 3) name(2, 5) name(3, 6)");
        x.runs("traveller(0, 6, 99) traveller(6, 0, 98) traveller(1, 4, 7) traveller(4, 1, 1) ".repeat(2));
        x.runs("book(0) book(1) book(2) ".repeat(4)).runs("tape(0, 1, 3) item(0, 2, 7) tape(5, 3, 2) act(6, 1, 8)");
        return x.feeds("x".repeat(100));
    }

    private static List<String> whole(String house) {
        if (!WHOLE.containsKey(house)) {
            WHOLE.put(house, make(house).whole());
        }
        return WHOLE.get(house);
    }

    private static void changesNothing(String house, String call) {
        // the call stands behind all else that made the object
        Told x = make(house);
        x.ask(call);
        List<String> seen = x.whole();
        List<String> due = whole(house);
        Check.due("things to see behind " + call, seen.size(), due.size());
        for (int k = 0; k < Math.min(seen.size(), due.size()); k++) {
            if (!seen.get(k).equals(due.get(k))) {
                Check.holds(house + ": " + call + " changes nothing: " + seen.get(k) + ", due is " + due.get(k), false);
                return;
            }
        }
        Check.holds(house + ": " + call + " changes nothing", true);
    }

    private static void refused(String house, long answer, String... calls) {
        for (String call : calls) {
            Check.due(house + ": " + call, make(house).ask(call), answer);
            changesNothing(house, call);
        }
    }

    private static void refusesOnNone() {
        Check.sentence("What is answered so changes nothing: without PLACES");
        refused("none", -1, "place(-1, 0, 0)", "place(7, 0, 0)", "of(0, 0)", "road(0, 1, 5)", "far(0, 1)", "name(0, 1)",
                "strike(0, 1)", "traveller(0, 1, 1)", "way(0, 0)", "toward(0, 0)", "next(0, 1)", "gone(0, 1, 0)",
                "turned(0, 1)", "chain(0, 1)", "gets(0)", "book(0)", "looked(0)", "trace(0)", "judge(6, 0)",
                "tape(6, 0, 1)", "item(6, 0, 1)", "shift(6, 0, 0, 0, 1)");
        refused("none", -2, "place(0, -1, 0)", "place(0, 10, 0)", "place(0, 0, -1)", "place(0, 0, 100)", "feed(-1)",
                "feed(128)", "allIn(0)", "newRoad(0, 0)", "taken(0, 7)", "count(6)", "tape(0, 5, 1)", "tape(0, 0, 61)");
        refused("none", -3, "undo()");
        refused("none", -5, "longest(1)", "put(0)", "worst(1)", "newRoad(1, 0)", "judge(0, 0)");
        refused("none", -11, "taken(0, 0)", "item(0, 0, 1)", "shift(0, 0, 1, 0, 0)");
        refused("none", -14, "tape(0, 0, -1)");
        refused("none", Long.MIN_VALUE, "odds(0, 0, 0, 0)", "mean(0)", "read(0, 0)");
        Check.sentence("of an empty text: the FAULT; 0, and no TRACE then");
        refused("none", -10, "land()");
        refused("none", 0, "act(0, 0, 1)", "book(-1)");
    }

    private static void refusesPlaces() {
        Check.sentence("What is answered so changes nothing: place, road, traveller, book");
        refused("some", -1, "place(-1, 0, 0)", "place(7, 9, 99)", "road(0, 5, 3)", "road(5, 0, 3)", "road(-1, 0, 3)",
                "road(5, 5, 3)", "traveller(0, 5, 1)", "traveller(5, 0, 1)", "traveller(0, -1, 1)", "book(5)",
                "book(-2)");
        refused("some", -2, "place(0, 10, 5)", "place(0, -1, 5)", "place(0, 5, 100)", "place(0, 5, -1)",
                "road(0, 0, 3)", "road(4, 4, 0)", "road(0, 1, 100)", "road(0, 1, -1)", "road(0, 2, 100)",
                "traveller(0, 0, 1)", "traveller(0, 1, 0)", "traveller(0, 1, 100)", "traveller(4, 0, -1)", "feed(-1)",
                "feed(128)");
    }

    private static void refusesNames() {
        Check.sentence("What is answered so changes nothing: name, strike");
        refused("some", -1, "name(0, 5)", "name(5, 0)", "name(-1, 4)", "name(5, 5)", "strike(0, 5)", "strike(5, 0)",
                "strike(-1, 0)");
        refused("some", -2, "name(0, 0)", "name(4, 4)");
        refused("some", -3, "name(0, 1)", "name(1, 0)", "name(3, 1)", "strike(0, 3)", "strike(3, 0)", "strike(4, 4)",
                "strike(2, 1)");
        refused("some", -4, "name(0, 3)", "name(3, 0)", "name(1, 2)", "name(4, 1)");
    }

    private static void refusesWhat() {
        Check.sentence("What is answered so changes nothing: what there is not to be asked");
        refused("some", -1, "of(0, 6)", "of(0, -1)", "of(5, 3)", "far(0, 5)", "told(2)", "told(-1)", "way(5, 0)",
                "toward(0, -1)", "next(5, 0)", "gone(0, 5, 0)", "gone(0, 1, 2)", "lost(2)", "longest(2)", "put(2)",
                "worst(-1)", "turned(0, 5)", "chain(5, 0)", "newRoad(5, 2)", "gets(5)", "looked(5)", "trace(20)");
        refused("some", -2, "next(2, 2)", "gone(4, 4, 1)", "chain(0, 0)", "allIn(7)", "newRoad(100, 1)", "taken(0, -1)",
                "count(-1)");
        refused("some", -3, "turned(0, 3)", "turned(4, 4)");
        refused("some", -5, "toward(0, 0)", "way(0, 4)", "next(2, 4)", "gone(0, 4, 0)", "chain(0, 4)");
        refused("some", -11, "taken(5, 0)");
        refused("some", -12, "taken(0, 1)", "judge(1, 0)", "judge(3, 0)");
        refused("some", Long.MIN_VALUE, "odds(0, 5, 1, 0)", "odds(0, 1, 7, 0)", "odds(0, 1, 1, 2)", "mean(2)",
                "read(6, 0)", "read(5, 0)", "read(0, 3)");
    }

    private static void refusesTapes() {
        Check.sentence("What is answered so changes nothing: tape, item, shift");
        refused("some", -1, "tape(6, 0, 1)", "tape(-1, -1, 1)", "item(6, 0, 1)", "item(-1, 0, 1)",
                "shift(6, 0, 0, 0, 1)", "shift(0, 0, -1, 0, 1)", "judge(-1, 0)");
        refused("some", -2, "tape(0, 5, 2)", "tape(0, -2, 2)", "tape(0, 2, 61)", "tape(5, 0, 61)");
        refused("some", -14, "tape(0, 2, -1)", "tape(5, 0, -1)", "tape(1, 4, -99)");
        refused("some", -11, "item(5, 0, 1)", "shift(0, 0, 5, 0, 1)", "shift(5, 0, 0, 0, 1)");
        refused("some", -12, "shift(0, 0, 1, 0, 1)", "shift(1, 0, 2, 0, 1)", "shift(0, 0, 3, 0, 0)");
        refused("some", -13, "item(0, 3, 9)", "item(0, -1, 9)", "item(3, 0, 9)", "shift(0, 0, 4, 0, 3)",
                "shift(0, 2, 4, 0, 2)", "shift(0, 0, 4, 1, 2)", "shift(0, 0, 0, 1, 3)", "shift(0, 0, 4, 0, -1)",
                "shift(0, -1, 4, 0, 2)");
    }

    private static void refusesFull() {
        Check.sentence("What is answered so changes nothing: FULL, and what is named ahead of it");
        refused("full", -4, "place(0, 0, 0)", "traveller(0, 1, 1)", "book(0)", "feed(120)", "land()", "name(0, 5)",
                "name(5, 0)", "name(0, 1)");
        refused("full", -1, "place(7, 0, 0)", "traveller(0, 7, 1)", "book(7)", "name(0, 7)");
        refused("full", -2, "place(0, 10, 0)", "traveller(0, 0, 1)", "traveller(0, 1, 0)", "feed(128)", "name(0, 0)");
        refused("full", -3, "name(0, 6)", "strike(0, 5)");
        refused("full", -13, "shift(0, 0, 0, 1, 3)", "item(5, 2, 1)");
    }

    private static void asks() {
        Check.sentence("what is asked changes nothing");
        String[] calls = {"of(0, 3)", "of(4, 5)", "far(0, 1)", "told(0)", "told(1)", "way(0, 2)", "toward(0, 2)",
            "next(0, 2)", "gone(0, 2, 0)", "gone(0, 2, 1)", "lost(0)", "lost(1)", "longest(0)", "longest(1)", "put(0)",
            "put(1)", "worst(0)", "worst(1)", "turned(0, 2)", "turned(2, 0)", "turned(1, 3)", "turned(3, 1)",
            "chain(0, 3)", "allIn(1)", "allIn(6)", "capitals()", "newRoad(1, 0)", "newRoad(99, 1)", "gets(0)",
            "gets(4)", "odds(0, 2, 6, 0)", "odds(0, 0, 0, 1)", "mean(0)", "mean(1)", "looked(0)", "looked(2)",
            "judge(0, 0)", "judge(4, 1)", "trace(0)", "taken(4, 3)", "count(0)", "count(5)", "read(0, 0)",
            "read(5, 1)"};
        for (String call : calls) {
            changesNothing("some", call);
            changesNothing("full", call);
        }
        changesNothing("none", "land()");
    }

    private static void changed(String call, boolean due) {
        Told x = make("some");
        x.ask(call);
        Check.holds("it is seen whether " + call + " changes something", x.whole().equals(whole("some")) != due);
    }

    /** This test sees what changes: else it would see nothing of what is refused. */
    private static void changes() {
        Check.sentence("what is not refused does change something");
        String[] calls = {"place(0, 0, 0)", "road(0, 1, 6)", "road(0, 4, 1)", "name(2, 3)", "strike(0, 1)",
            "traveller(0, 4, 1)", "feed(57)", "land()", "book(4)", "book(-1)", "image()", "undo()", "act(0, 0, 5)",
            "act(5, 0, 5)", "tape(0, 2, 3)", "tape(5, 0, 0)", "tape(3, -1, 0)", "item(0, 1, 1)",
            "shift(0, 0, 4, 0, 1)"};
        for (String call : calls) {
            changed(call, true);
        }
        changed("road(0, 1, 5)", false);
        changed("act(4, 2, 5)", false);
        changed("item(0, 1, 0)", false);
    }
}
