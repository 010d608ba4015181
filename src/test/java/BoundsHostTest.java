/** Each sentence that names a boundary, of JUDGED, THE IMAGE, ACTS, counts, TAPES: Terms 2 and 3, promises 30 to 40. */
final class BoundsHostTest {
    private static final String[] NO_TAPES = {"LOW", "-14", "-2", "-1", "6", "7", "60", "HIGH"};
    private static final long NO = Long.MIN_VALUE;
    private static final int HIGH = Integer.MAX_VALUE;
    private static final int LOW = Integer.MIN_VALUE;

    private BoundsHostTest() {
    }

    public static void main(String[] args) {
        judgedNone();
        judgedOtherwise();
        judgedRowEnds();
        judgedNothing();
        judgeRefuses();
        imageOfNone();
        undoNone();
        undoAgain();
        undoWhichLand();
        undoFull();
        undoBook();
        actNone();
        actWraps();
        traceEnds();
        takenRefuses();
        counts();
        tapeSorts();
        tapeSizes();
        tapeAllZero();
        tapeRefusesInOrder();
        itemLowestBits();
        itemPlaces();
        readNo();
        shiftNone();
        shiftEnds();
        shiftRefusesInOrder();
        shiftOverItself();
        Check.end("BoundsHostTest");
    }

    /** A row of ints on TAPE 0. */
    private static Told ints(Told x, long... items) {
        x.runs("tape(0, 2, " + items.length + ")");
        for (int i = 0; i < items.length; i++) {
            x.runs("item(0, " + i + ", " + items[i] + ")");
        }
        return x;
    }

    private static void judgedNone() {
        Check.sentence("JUDGED: -5: none, or there is none to look at");
        Told x = new Told().dueAll(-5, "judge(0, 0)", "judge(5, 0)", "judge(0, -1)", "judge(0, LOW)", "judge(0, HIGH)");
        x.runs("tape(0, 2, 0)").due("judge(0, 0)", -5).runs("tape(0, 2, 1)").dueAll(-5, "judge(0, 0)", "judge(0, 1)");
        x.runs("place(0, 0, 0)").due("judge(0, 0)", -5).runs("place(0, 0, 99)");
        ints(x, 0, 99).due("judge(0, 0)", -5);
        ints(x, 5, 0, 99, 7).due("judge(0, 1)", -5);
        Told seven = Told.places(7).lands("great 60 p=6");
        ints(seven, 0, 0, 0, 0, 0, 0, 60).due("judge(0, 0)", -5);
        seven.runs("tape(0, 2, 60) item(0, 59, 60)").due("judge(0, 53)", -5);
        seven.due("judge(0, 54)", 5).due("judge(0, 52)", 6).runs("tape(0, 2, 6)").due("judge(0, 0)", 106);
    }

    private static void judgedOtherwise() {
        Check.sentence("JUDGED: the first of which it is otherwise");
        Told x = new Told().runs("place(0, 0, 1) place(0, 0, 2) place(0, 0, 3)");
        ints(x, 1, 2, 3).due("judge(0, 0)", -5);
        ints(x, 0, 2, 3).due("judge(0, 0)", 0);
        ints(x, 1, 3, 3).due("judge(0, 0)", 1);
        ints(x, 1, 2, 2).due("judge(0, 0)", 2);
        ints(x, 2, 1, 4).due("judge(0, 0)", 0);
        ints(x, 1, -2, -3).due("judge(0, 0)", 1);
        Check.sentence("SIZES are JUDGED, not PEOPLE");
        ints(x, 1, 2, 3).lands("great 1 p=2").due("judge(0, 0)", 2);
        ints(x, 1, 2, 4).due("judge(0, 0)", -5);
    }

    private static void judgedRowEnds() {
        Check.sentence("100 and how many were looked at, if the row ends ahead of that");
        Told x = new Told().runs("place(0, 0, 1) place(0, 0, 1) place(0, 0, 1)");
        ints(x).due("judge(0, 0)", 100);
        ints(x, 1).due("judge(0, 0)", 101).due("judge(0, 1)", 100);
        ints(x, 1, 1).due("judge(0, 0)", 102).due("judge(0, 1)", 101);
        ints(x, 1, 1, 1).due("judge(0, 0)", -5).due("judge(0, 1)", 102).due("judge(0, 3)", 100);
        ints(x, 1, 2).due("judge(0, 0)", 1).due("judge(0, 1)", 0);
        x.dueAll(100, "judge(0, 2)", "judge(0, 60)", "judge(0, HIGH)", "judge(0, 2147483646)");
        Check.sentence("100: (or the place is below 0)");
        ints(x, 1, 1, 1).dueAll(100, "judge(0, -1)", "judge(0, -3)", "judge(0, LOW)").due("judge(0, 0)", -5);
    }

    private static void judgedNothing() {
        Check.sentence("100: (or the TAPE holds nothing)");
        Told x = Told.places(1).dueAll(100, "judge(0, 0)", "judge(5, 0)", "judge(0, -1)", "judge(0, HIGH)");
        x.runs("tape(0, 2, 1)").due("judge(0, 0)", -5).runs("tape(0, -1, 1)").due("judge(0, 0)", 100);
    }

    private static void judgeRefuses() {
        Check.sentence("judge: NONE: tape; CAST: it is no row of ints");
        for (int places = 0; places < 2; places++) {
            Told x = Told.places(places);
            for (int sort : new int[] {0, 1, 3, 4}) {
                x.runs("tape(5, " + sort + ", 9)").dueAll(-12, "judge(5, 0)", "judge(5, -1)", "judge(5, HIGH)");
                x.runs("tape(5, " + sort + ", 0)").due("judge(5, 0)", -12);
            }
            for (String tape : NO_TAPES) {
                x.dueAll(-1, "judge(" + tape + ", 0)", "judge(" + tape + ", -1)");
            }
        }
    }

    private static void imageOfNone() {
        Check.sentence("THE IMAGE is taken: how many PLACES there are: none, seven");
        Told x = new Told().due("image()", 0).runs("place(0, 0, 0)").due("undo()", 0).due("count(0)", 0);
        x.due("of(0, 0)", -1).due("place(4, 5, 6)", 0).due("of(0, 0)", 4).due("image()", 1);
        Told.places(7).due("image()", 7).due("undo()", 7);
    }

    private static void undoNone() {
        Check.sentence("All is as THE IMAGE: how many PLACES. STATE: there is none");
        Told x = new Told().due("undo()", -3).runs("place(0, 0, 0)").due("undo()", -3).due("count(0)", 1);
        x.due("image()", 1).due("undo()", 1);
    }

    private static void undoAgain() {
        Check.sentence("THE IMAGE stays: undo() again, and the newest of two");
        Told x = Told.places(2).runs("road(0, 1, 7) image()");
        for (int k = 0; k < 3; k++) {
            x.runs("road(0, 1, 9) name(0, 1) traveller(0, 1, 5) book(0) place(0, 0, 0)").due("undo()", 2);
            x.due("far(0, 1)", 7).dueAll(0, "told(1)", "count(2)", "count(3)").due("of(2, 0)", -1);
        }
        x.runs("road(0, 1, 8) image() road(0, 1, 9)").due("undo()", 2).due("far(0, 1)", 8);
        Check.sentence("a PLACE, a TRAVELLER that comes behind undo() has nothing of the one that was there");
        x.runs("place(1, 1, 1) road(2, 0, 5) name(2, 1)").due("undo()", 2).due("place(6, 2, 2)", 2);
        x.due("of(2, 0)", 6).due("of(2, 1)", 2).due("of(2, 2)", 2).due("of(2, 4)", 0).due("of(2, 5)", 0);
        x.due("of(0, 5)", 2).due("of(1, 4)", 0);
    }

    private static void undoWhichLand() {
        Check.sentence("THE IMAGE: which LAND holds: none, the first, the sixth");
        Told x = Told.places(1).runs("image()").lands("great 1 p=0;arms 0").due("undo()", 1);
        x.due("of(0, 3)", 0).due("told(0)", 4).due("count(1)", 1);
        x.lands("great 2 p=0;arms 1").runs("image()").due("undo()", 1).due("of(0, 3)", 2).due("told(0)", 1);
        for (int k = 3; k < 7; k++) {
            x.dueLand("great " + k + " p=0", k - 1).due("of(0, 3)", k);
        }
        x.due("undo()", 1).due("of(0, 3)", 2).due("count(1)", 6);
        Check.sentence("LANDS and THE TEXT are none of THE IMAGE");
        x.dueLand("arms 7", -4).due("undo()", 1).due("count(4)", 6).due("count(1)", 6).due("told(0)", 1);
    }

    private static void undoFull() {
        Check.sentence("THE IMAGE: PLACES, ROADS, NAMES, TRAVELLERS, the BOOK: full, and none");
        String all = "road(P, Q, 9) name(P, Q)";
        Told x = Told.places(7).runs("image()").lands("arms 6").pairs(7, all);
        x.runs("traveller(5, 6, 99) ".repeat(8)).runs("book(6) ".repeat(12)).due("undo()", 7);
        x.dueAll(0, "of(0, 4)", "of(6, 4)", "of(0, 5)", "of(6, 5)", "told(1)", "count(2)", "count(3)", "lost(0)");
        x.lands("arms 6").pairs(7, all);
        x.runs("traveller(5, 6, 99) ".repeat(8)).runs("book(6) ".repeat(12)).runs("image() book(-1) strike(5, 6)");
        x.runs("road(5, 6, 0)").due("undo()", 7).due("told(1)", 21).due("of(6, 5)", 63).due("count(2)", 8);
        x.due("count(3)", 12).due("looked(6)", 1).due("looked(0)", 1);
        x.dueAll(-4, "traveller(0, 1, 1)", "book(0)", "place(0, 0, 0)");
    }

    private static void undoBook() {
        Check.sentence("THE IMAGE: the BOOK, row by row");
        Told x = BoundsJourneysTest.row(Told.kinds(4, 4, 4), 1, 1).runs("book(2) book(1) book(0) image()");
        x.due("looked(0)", -5);
        x.runs("book(-1) book(0) book(0) book(0) book(0)").due("looked(0)", 1).due("undo()", 3).due("looked(0)", -5);
        x.runs("book(-1)").due("undo()", 3).due("count(3)", 3).due("looked(0)", -5);
        x.due("book(0)", 4).due("looked(0)", 3);
    }

    private static void actNone() {
        Check.sentence("0, and no TRACE then: no such PLACE, act");
        Told x = new Told().due("act(0, 0, 5)", 0).due("count(5)", 0).runs("place(0, 0, 0) place(6, 9, 9)");
        String[] none = {"act(2, 0, 5)", "act(-1, 0, 5)", "act(LOW, 2, 5)", "act(HIGH, 2, 5)", "act(0, -1, 5)",
            "act(0, 3, 5)", "act(1, LOW, 5)", "act(1, HIGH, 5)", "act(2, 3, 5)"};
        for (String call : none) {
            x.runs("act(1, 2, 5)").due("count(5)", 12).due("trace(0)", 40).due("trace(11)", 10);
            x.due(call, 0).due("count(5)", 0).due("trace(0)", -1).due("trace(11)", -1);
        }
        Check.sentence("An ACT (0 points, 1 names, 2 tells): the last PLACE, the last act");
        x.due("act(1, 0, 5)", (5 + 1) ^ 9).due("act(0, 0, 5)", 5).due("act(0, 2, 5)", 10);
    }

    private static Told act(int kind, int v, int place) {
        return Told.places(place).runs("place(" + kind + ", " + v + ", 0)");
    }

    private static void actWraps() {
        Check.sentence("ACTS with x (wrapping): x + i");
        act(0, 9, 6).due("act(6, 0, HIGH)", LOW + 5).due("act(6, 0, LOW)", LOW + 6).due("act(6, 0, -6)", 0);
        act(0, 9, 0).due("act(0, 0, HIGH)", HIGH).due("act(0, 0, LOW)", LOW);
        Check.sentence("wrapping: points(x) - v, names(x) * 2");
        act(0, 9, 0).due("act(0, 1, LOW)", HIGH - 8).due("act(0, 1, HIGH)", HIGH - 9);
        act(0, 0, 0).due("act(0, 2, HIGH)", -2).due("act(0, 2, LOW)", 0).due("act(0, 2, 1073741824)", LOW);
        Check.sentence("wrapping: super.points(x * 3), -super.points(x), super.names(x + 1)");
        act(2, 0, 0).due("act(0, 0, HIGH)", HIGH - 2).due("act(0, 0, LOW)", LOW).due("act(0, 0, 715827883)", LOW + 1);
        act(4, 0, 0).due("act(0, 0, LOW)", LOW).due("act(0, 0, HIGH)", LOW + 1);
        // LOW + 1 - 1 less v: -(LOW) is LOW itself
        act(4, 0, 0).due("act(0, 1, HIGH)", LOW ^ 6);
        act(4, 1, 0).due("act(0, 1, HIGH)", HIGH ^ 6);
        Check.sentence("wrapping: super.tells(x - i), super.tells(x) + names(1), super.names(x) + super.points(2)");
        act(5, 0, 1).due("act(1, 2, LOW)", ((HIGH * 3) + 1) * 2);
        act(3, 0, 0).due("act(0, 2, HIGH)", -1).due("act(0, 2, 1073741823)", HIGH);
        act(6, 0, 0).due("act(0, 1, HIGH)", LOW + 1).due("act(0, 2, HIGH)", (LOW + 1) * 2 + 3);
    }

    private static void traceEnds() {
        Check.sentence("THE TRACE's i-th body. NONE; the first 20 are kept");
        Told x = act(6, 0, 0).due("trace(0)", -1).runs("act(0, 2, 1)").due("count(5)", 12);
        int[] bodies = {40, 12, 70, 11, 71, 10, 10, 70, 11, 71, 10, 10};
        for (int i = 0; i < 12; i++) {
            x.due("trace(" + i + ")", bodies[i]);
        }
        x.dueAll(-1, "trace(-1)", "trace(12)", "trace(19)", "trace(20)", "trace(21)", "trace(LOW)", "trace(HIGH)");
        Check.sentence("THE TRACE: of the latest act()");
        x.runs("place(0, 0, 0) act(1, 0, 1)").due("count(5)", 1).due("trace(0)", 10).due("trace(1)", -1);
        x.runs("image() place(0, 0, 0) undo()").due("trace(0)", 10).due("count(5)", 1);
    }

    private static void takenRefuses() {
        Check.sentence("taken: BAD: k; NOTHING: no such PLACE; CAST");
        Told x = Told.kinds(0, 6).dueAll(-2, "taken(0, -1)", "taken(0, 7)", "taken(1, LOW)", "taken(1, HIGH)");
        x.dueAll(-11, "taken(2, 0)", "taken(-1, 0)", "taken(2, 6)", "taken(LOW, 3)", "taken(HIGH, 3)");
        x.dueAll(-2, "taken(2, 7)", "taken(-1, -1)").dueAll(-12, "taken(0, 1)", "taken(0, 6)", "taken(1, 5)");
        Check.sentence("A PLACE taken for one of KIND k (0 .. 6), or one under that: its KIND");
        x.due("taken(0, 0)", 0).due("taken(1, 6)", 6).due("taken(1, 3)", 6).due("taken(1, 0)", 6);
        Told y = Told.kinds(0, 1, 2, 3, 4, 5, 6);
        String[] under = {"0", "01", "02", "03", "014", "025", "036"};
        for (int p = 0; p < 7; p++) {
            for (int k = 0; k < 7; k++) {
                y.due("taken(" + p + ", " + k + ")", under[p].indexOf('0' + k) >= 0 ? p : -12);
            }
        }
    }

    private static void counts() {
        Check.sentence("How many: 0 PLACES .. 5 bodies. BAD");
        Told x = new Told().dueAll(-2, "count(-1)", "count(6)", "count(LOW)", "count(HIGH)");
        x.dueAll(0, "count(0)", "count(1)", "count(2)", "count(3)", "count(4)", "count(5)");
        x.runs("place(6, 0, 0) ".repeat(7)).runs("traveller(0, 6, 1) ".repeat(8)).runs("book(3) ".repeat(12));
        for (int k = 0; k < 6; k++) {
            x.lands("arms 1");
        }
        x.feeds("x".repeat(100)).runs("act(0, 2, 1)");
        x.due("count(0)", 7).due("count(1)", 6).due("count(2)", 8).due("count(3)", 12).due("count(4)", 100);
        x.due("count(5)", 12).dueAll(-2, "count(-1)", "count(6)");
        Check.sentence("refused calls count for nothing");
        x.dueAll(-4, "place(0, 0, 0)", "traveller(0, 6, 1)", "book(0)", "feed(1)", "land()");
        x.due("count(0)", 7).due("count(1)", 6).due("count(2)", 8).due("count(3)", 12).due("count(4)", 100);
    }

    private static void tapeSorts() {
        Check.sentence("TAPES 0 .. 5 hold nothing (at first). NONE: tape");
        Told x = new Told();
        for (int t = 0; t < 6; t++) {
            x.due("item(" + t + ", 0, 1)", -11).due("read(" + t + ", 0)", NO).due("tape(" + t + ", 0, 1)", 1);
            x.due("item(" + t + ", 0, 1)", 1).due("read(" + t + ", 0)", 1);
        }
        for (String tape : NO_TAPES) {
            x.dueAll(-1, "tape(" + tape + ", 0, 1)", "tape(" + tape + ", -1, 1)", "tape(" + tape + ", 9, 99)");
        }
        Check.sentence("a row of 0 bytes .. 4 booleans; BAD: sort");
        x.dueAll(-2, "tape(0, 5, 1)", "tape(0, -2, 1)", "tape(5, LOW, 1)", "tape(5, HIGH, 1)").due("read(0, 0)", 1);
        long[] kept = {-1, 511, 511, 511, 1};
        for (int sort = 0; sort < 5; sort++) {
            x.due("tape(0, " + sort + ", 1)", 1).due("item(0, 0, 511)", 1).due("read(0, 0)", kept[sort]);
        }
        Check.sentence("or holds nothing (sort -1: n does not matter): 1");
        for (String n : new String[] {"0", "1", "60", "61", "-1", "LOW", "HIGH"}) {
            x.runs("tape(5, 1, 2)").due("tape(5, -1, " + n + ")", 1).due("item(5, 0, 1)", -11).due("read(5, 0)", NO);
            x.due("tape(5, -1, " + n + ")", 1);
        }
    }

    private static void tapeSizes() {
        Check.sentence("a row of n (0 .. 60); BAD: n above 60; SIZE (-14): a size below 0");
        Told x = new Told();
        for (int sort = 0; sort < 5; sort++) {
            String tape = "tape(" + sort + ", " + sort + ", ";
            x.due(tape + "60)", 1).due("item(" + sort + ", 59, 1)", 1).due("item(" + sort + ", 60, 1)", -13);
            x.dueAll(-2, tape + "61)", tape + "HIGH)").dueAll(-14, tape + "-1)", tape + "LOW)");
            x.due("read(" + sort + ", 59)", 1).due("read(" + sort + ", 60)", NO);
            x.due(tape + "1)", 1).due("item(" + sort + ", 0, 1)", 1).due("item(" + sort + ", 1, 1)", -13);
            x.due(tape + "0)", 1).due("item(" + sort + ", 0, 1)", -13).due("read(" + sort + ", 0)", NO);
        }
    }

    private static void tapeAllZero() {
        Check.sentence("A TAPE becomes a row of n of a sort, all 0");
        Told x = new Told().runs("tape(0, 3, 60)");
        for (int i = 0; i < 60; i++) {
            x.runs("item(0, " + i + ", -1)");
        }
        x.runs("tape(0, 3, 60)");
        for (int i = 0; i < 60; i++) {
            x.due("read(0, " + i + ")", 0);
        }
        x.runs("item(0, 0, 7) item(0, 5, 7) tape(0, 3, 1)").due("read(0, 0)", 0);
        x.runs("tape(0, 3, 6)").due("read(0, 5)", 0);
        x.runs("item(0, 5, 7) tape(0, -1, 0) tape(0, 4, 6)").due("read(0, 5)", 0);
    }

    private static void tapeRefusesInOrder() {
        Check.sentence("the first that a call's words name: NONE: tape; BAD: sort, n above 60; SIZE");
        Told x = new Told().dueAll(-1, "tape(6, 5, 61)", "tape(-1, -2, -1)", "tape(6, 0, -1)", "tape(6, 0, 61)");
        x.dueAll(-2, "tape(0, 5, -1)", "tape(0, -2, -1)", "tape(0, 5, 61)", "tape(0, 5, LOW)");
        x.due("tape(0, 4, -1)", -14).due("item(0, 0, 1)", -11);
    }

    private static void keeps(int sort, long v, long kept) {
        Told x = new Told().runs("tape(3, " + sort + ", 3)").due("item(3, 1, " + v + ")", 1).due("read(3, 1)", kept);
        x.due("read(3, 0)", 0).due("read(3, 2)", 0);
    }

    private static void itemLowestBits() {
        long[] bits = {8, 16, 32, 64};
        for (int sort = 0; sort < 4; sort++) {
            Check.sentence("Item becomes v (its lowest bits, as many as an item has: " + bits[sort] + ")");
            long high = Long.MAX_VALUE >> 64 - bits[sort];
            keeps(sort, high, high);
            keeps(sort, -high - 1, -high - 1);
            keeps(sort, high + 1, -high - 1);
            keeps(sort, -high - 2, high);
            keeps(sort, 2 * high + 1, -1);
            keeps(sort, 2 * high + 2, 0);
            keeps(sort, -1, -1);
            keeps(sort, 0, 0);
            keeps(sort, Long.MAX_VALUE, sort == 3 ? high : -1);
            keeps(sort, Long.MIN_VALUE, sort == 3 ? -high - 1 : 0);
        }
        Check.sentence("booleans (items 0, 1): whether v is not 0");
        keeps(4, 0, 0);
        for (long v : new long[] {1, 2, -1, 256, 1L << 32, Long.MAX_VALUE, Long.MIN_VALUE}) {
            keeps(4, v, 1);
        }
        new Told().runs("tape(0, 4, 1) item(0, 0, 5) item(0, 0, 0)").due("read(0, 0)", 0);
    }

    private static void itemPlaces() {
        Check.sentence("item: NONE; NOTHING (-11): nothing is there; PLACE (-13): no such place");
        Told x = new Told().dueAll(-11, "item(0, 0, 1)", "item(5, -1, 1)", "item(5, LOW, 1)", "item(0, HIGH, 1)");
        for (String tape : NO_TAPES) {
            x.dueAll(-1, "item(" + tape + ", 0, 1)", "item(" + tape + ", -1, 1)");
        }
        x.runs("tape(5, 1, 2)").due("item(5, 0, 3)", 1).due("item(5, 1, 4)", 1);
        x.dueAll(-13, "item(5, -1, 9)", "item(5, 2, 9)", "item(5, LOW, 9)", "item(5, HIGH, 9)", "item(5, 60, 9)");
        x.due("read(5, 0)", 3).due("read(5, 1)", 4).runs("tape(5, 1, 0)").due("item(5, 0, 9)", -13);
    }

    private static void readNo() {
        Check.sentence("read: NO: no such TAPE, nothing there, no such place");
        Told x = new Told().dueAll(NO, "read(0, 0)", "read(5, 0)", "read(0, -1)", "read(0, HIGH)");
        for (String tape : NO_TAPES) {
            x.due("read(" + tape + ", 0)", NO);
        }
        x.runs("tape(5, 3, 2) item(5, 0, 8) item(5, 1, 9)").due("read(5, 0)", 8).due("read(5, 1)", 9);
        x.dueAll(NO, "read(5, -1)", "read(5, 2)", "read(5, LOW)", "read(5, HIGH)", "read(5, 59)");
        x.runs("tape(5, 3, 0)").due("read(5, 0)", NO);
        Check.sentence("an item may be as NO is");
        x.runs("tape(5, 3, 1) item(5, 0, -9223372036854775808)").due("read(5, 0)", NO).due("item(5, 0, 0)", 1);
    }

    /** TAPES 0 and 1 are rows of shorts: 1 2 3 4 5 and 0 0 0. */
    private static Told rows() {
        Told x = new Told().runs("tape(0, 1, 5) tape(1, 1, 3)");
        for (int i = 0; i < 5; i++) {
            x.runs("item(0, " + i + ", " + (i + 1) + ")");
        }
        return x;
    }

    private static void dueRow(Told x, int tape, int... items) {
        for (int i = 0; i < items.length; i++) {
            x.due("read(" + tape + ", " + i + ")", items[i]);
        }
        x.due("read(" + tape + ", " + items.length + ")", NO);
    }

    private static void shiftNone() {
        Check.sentence("shift: n items: n: none");
        Told x = rows().dueAll(0, "shift(0, 0, 1, 0, 0)", "shift(0, 5, 1, 3, 0)", "shift(0, 5, 0, 5, 0)");
        dueRow(x, 0, 1, 2, 3, 4, 5);
        dueRow(x, 1, 0, 0, 0);
        x.runs("tape(2, 1, 0) tape(3, 1, 0)").dueAll(0, "shift(2, 0, 3, 0, 0)", "shift(0, 5, 3, 0, 0)");
        x.dueAll(-13, "shift(2, 0, 3, 0, 1)", "shift(2, 1, 3, 0, 0)", "shift(2, 0, 3, 1, 0)");
        Check.sentence("shift: all items of a row of 60");
        Told y = new Told().runs("tape(4, 3, 60) tape(5, 3, 60) item(4, 0, -1) item(4, 59, 9)");
        y.due("shift(4, 0, 5, 0, 60)", 60).due("read(5, 0)", -1).due("read(5, 59)", 9);
        y.due("shift(4, 0, 5, 0, 61)", -13);
    }

    private static void shiftEnds() {
        Check.sentence("PLACE: n, i or j is below 0, or beyond either's end");
        Told x = rows().dueAll(-13, "shift(0, 0, 1, 0, -1)", "shift(0, -1, 1, 0, 1)", "shift(0, 0, 1, -1, 1)");
        x.dueAll(-13, "shift(0, -1, 1, 0, 0)", "shift(0, 0, 1, -1, 0)", "shift(0, 6, 1, 0, 0)", "shift(0, 0, 1, 4, 0)");
        x.dueAll(-13, "shift(0, 0, 1, 0, 4)", "shift(0, 3, 1, 0, 3)", "shift(0, 5, 1, 0, 1)", "shift(0, 0, 1, 3, 1)");
        x.dueAll(-13, "shift(0, 0, 1, 1, 3)", "shift(1, 0, 0, 3, 3)", "shift(1, 1, 0, 0, 3)", "shift(0, 0, 0, 1, 5)");
        Check.sentence("PLACE: i and n, j and n, wrap around");
        x.dueAll(-13, "shift(0, HIGH, 1, 0, 1)", "shift(0, 1, 1, 0, HIGH)", "shift(0, 0, 1, HIGH, 1)");
        x.dueAll(-13, "shift(0, HIGH, 1, HIGH, HIGH)", "shift(0, 1, 1, 1, HIGH)", "shift(0, LOW, 1, LOW, LOW)");
        x.dueAll(-13, "shift(0, LOW, 1, 0, HIGH)", "shift(0, 0, 1, 0, LOW)", "shift(0, 5, 1, 3, -3)");
        dueRow(x, 0, 1, 2, 3, 4, 5);
        dueRow(x, 1, 0, 0, 0);
        Check.sentence("shift: to the end of the one, and of the other");
        x.due("shift(0, 2, 1, 0, 3)", 3).due("shift(1, 2, 0, 4, 1)", 1);
        dueRow(x, 1, 3, 4, 5);
        x.due("shift(0, 0, 1, 2, 1)", 1).due("shift(1, 0, 0, 3, 2)", 2);
        dueRow(x, 0, 1, 2, 3, 3, 4);
        dueRow(x, 1, 3, 4, 1);
    }

    private static void shiftRefusesInOrder() {
        Check.sentence("shift: NONE: tapes; NOTHING; CAST: of unlike sorts; PLACE");
        Told x = rows().runs("tape(2, 2, 5)");
        for (String tape : NO_TAPES) {
            x.dueAll(-1, "shift(" + tape + ", 0, 0, 0, 1)", "shift(0, 0, " + tape + ", 0, 1)",
                    "shift(" + tape + ", -1, 5, 0, 1)", "shift(5, 0, " + tape + ", 0, -1)");
        }
        x.dueAll(-11, "shift(5, 0, 0, 0, 1)", "shift(0, 0, 5, 0, 1)", "shift(5, 0, 5, 0, 0)", "shift(5, -1, 0, 0, 1)",
                "shift(0, 0, 5, 0, -1)", "shift(4, 0, 5, 0, 1)");
        x.dueAll(-12, "shift(0, 0, 2, 0, 1)", "shift(2, 0, 0, 0, 1)", "shift(0, 0, 2, 0, 0)", "shift(0, -1, 2, 0, 1)",
                "shift(0, 0, 2, 0, 99)", "shift(0, 0, 2, 0, -1)");
        for (int sort = 0; sort < 5; sort++) {
            x.runs("tape(3, " + sort + ", 5)").due("shift(0, 0, 3, 0, 5)", sort == 1 ? 5 : -12);
            x.runs("tape(4, " + sort + ", 5)").due("shift(3, 0, 4, 0, 5)", 5).due("shift(3, 0, 4, 0, 6)", -13);
        }
    }

    private static void shiftOverItself() {
        Check.sentence("(or the same), as they all were before");
        Told on = rows().due("shift(0, 0, 0, 1, 4)", 4);
        dueRow(on, 0, 1, 1, 2, 3, 4);
        Told back = rows().due("shift(0, 1, 0, 0, 4)", 4);
        dueRow(back, 0, 2, 3, 4, 5, 5);
        Told same = rows().due("shift(0, 0, 0, 0, 5)", 5);
        dueRow(same, 0, 1, 2, 3, 4, 5);
    }
}
