/** Promises 30 to 40: judging, the image, acts, tapes. */
final class HostTest {
    private static final int LOW = Integer.MIN_VALUE;
    private static final int HIGH = Integer.MAX_VALUE;

    private HostTest() {
    }

    public static void main(String[] args) {
        promise30Judge();
        promise31Image();
        promise32Undo();
        promise32UndoLand();
        promise33Act();
        promise33ActWraps();
        promise34Trace();
        promise35Taken();
        promise36Count();
        promise37Tape();
        promise38Item();
        promise39Read();
        promise40Shift();
        promise40ShiftEnds();
        Check.end("HostTest");
    }

    private static void promise30Judge() {
        NamesBack x = new NamesBack();
        x.tape(1, 0, 3);
        Check.due("30: no tape", x.judge(6, 0), -1);
        Check.due("30: below", x.judge(-1, 0), -1);
        Check.due("30: bytes", x.judge(1, 0), -12);
        Check.due("30: there is none to look at", x.judge(0, 0), -5);
        Check.due("30: none to look at, place below 0", x.judge(0, -1), -5);
        x.place(0, 0, 30);
        x.place(0, 0, 40);
        x.place(0, 0, 50);
        Check.due("30: the TAPE holds nothing", x.judge(0, 0), 100);
        int[] sorts = {0, 1, 3, 4};
        for (int sort : sorts) {
            x.tape(1, sort, 3);
            Check.due("30: sort " + sort, x.judge(1, 0), -12);
            Check.due("30: CAST ahead of the place", x.judge(1, -1), -12);
        }
        x.tape(0, 2, 5);
        x.item(0, 1, 30);
        x.item(0, 2, 40);
        x.item(0, 3, 50);
        Check.due("30: all are so", x.judge(0, 1), -5);
        Check.due("30: otherwise at once", x.judge(0, 0), 0);
        x.item(0, 3, 51);
        Check.due("30: the third is otherwise", x.judge(0, 1), 2);
        Check.land(x, "great 1 p=2");
        Check.due("30: SIZES", x.judge(0, 1), -5);
        x.item(0, 4, 30);
        Check.due("30: the row ends behind one", x.judge(0, 4), 101);
        x.item(0, 3, 30);
        x.item(0, 4, 40);
        Check.due("30: the row ends behind two", x.judge(0, 3), 102);
        Check.due("30: behind the end", x.judge(0, 5), 100);
        Check.due("30: far behind the end", x.judge(0, HIGH), 100);
        Check.due("30: below 0", x.judge(0, -1), 100);
        Check.due("30: far below 0", x.judge(0, LOW), 100);
        x.tape(0, 2, 0);
        Check.due("30: a row of none", x.judge(0, 0), 100);
    }

    private static void promise31Image() {
        NamesBack x = new NamesBack();
        Check.due("31: none", x.image(), 0);
        x.place(0, 0, 0);
        x.place(0, 0, 0);
        Check.due("31: two", x.image(), 2);
        x.place(0, 0, 0);
        Check.due("31: as it was taken last", x.undo(), 2);
    }

    private static void promise32Undo() {
        NamesBack x = new NamesBack();
        Check.due("32: there is none", x.undo(), -3);
        x.place(1, 2, 3);
        x.place(0, 0, 7);
        x.road(0, 1, 9);
        x.name(0, 1);
        x.traveller(0, 1, 5);
        x.book(1);
        x.image();
        x.place(2, 2, 2);
        x.road(0, 1, 0);
        x.road(1, 2, 4);
        x.strike(0, 1);
        x.name(1, 2);
        x.traveller(2, 1, 5);
        x.book(-1);
        x.book(0);
        x.book(0);
        x.feed(65);
        x.tape(0, 2, 4);
        x.act(0, 1, 1);
        for (int k = 0; k < 2; k++) {
            Check.due("32: two PLACES", x.undo(), 2);
            Check.due("32: PLACES", x.count(0), 2);
            Check.due("32: KIND", x.of(0, 0), 1);
            Check.due("32: v", x.of(0, 1), 2);
            Check.due("32: PEOPLE", x.of(0, 2), 3);
            Check.due("32: NAMES", x.told(1), 1);
            Check.due("32: names", x.of(0, 4), 2);
            Check.due("32: ROADS", x.of(1, 5), 1);
            Check.due("32: MILES", x.far(0, 1), 9);
            Check.due("32: TRAVELLERS", x.count(2), 1);
            Check.due("32: rows", x.count(3), 1);
            Check.due("32: the row is 1's: one goes from there to 0", x.book(0), 2);
            Check.due("32: the BOOK", x.looked(0), -5);
            // the image stays as it was taken, whatever comes behind an undo
            x.place(3, 3, 3);
            x.road(0, 2, 5);
            x.strike(0, 1);
        }
        Check.due("32: the text stays", x.count(4), 1);
        Check.due("32: TAPES stay", x.read(0, 3), 0);
        Check.due("32: the TRACE stays", x.trace(0), 20);
        x.undo();
        x.place(3, 3, 3);
        Check.due("32: a new PLACE has no ROADS", x.of(2, 5), 0);
        Check.due("32: a new PLACE has no names", x.of(2, 4), 0);
    }

    private static void promise32UndoLand() {
        NamesBack x = new NamesBack();
        x.place(0, 0, 1);
        x.image();
        Check.land(x, "great 10 p=0;arms 1");
        Check.due("32: the LAND holds", x.of(0, 3), 11);
        x.undo();
        Check.due("32: no LAND holds", x.of(0, 3), 1);
        Check.due("32: no arms", x.told(0), 4);
        Check.due("32: the LAND is there still", x.count(1), 1);
        Check.land(x, "great 20 p=0");
        x.image();
        Check.due("32: the third LAND", Check.land(x, "great 30 p=0"), 2);
        Check.due("32: it holds", x.of(0, 3), 31);
        x.undo();
        Check.due("32: the second holds", x.of(0, 3), 21);
        Check.due("32: three", x.count(1), 3);
        Check.due("32: the fourth LAND", Check.land(x, "great 40 p=0"), 3);
        Check.due("32: it holds", x.of(0, 3), 41);
    }

    /** An object with a PLACE of each KIND, v 3; PLACE and KIND have the same number. */
    private static NamesBack kinds() {
        NamesBack x = new NamesBack();
        for (int kind = 0; kind < 7; kind++) {
            x.place(kind, 3, 0);
        }
        return x;
    }

    private static void act(NamesBack x, int place, int act, int with, int answer, int... bodies) {
        String call = "act(" + place + ", " + act + ", " + with + ")";
        Check.due("33: " + call, x.act(place, act, with), answer);
        Check.due("36: bodies of " + call, x.count(5), bodies.length);
        for (int i = 0; i < bodies.length; i++) {
            Check.due("34: trace(" + i + ") of " + call, x.trace(i), bodies[i]);
        }
        Check.due("34: the end of " + call, x.trace(bodies.length), -1);
    }

    private static void promise33Act() {
        NamesBack x = kinds();
        act(x, 0, 0, 5, 5, 10);
        act(x, 0, 1, 5, 2, 11, 10);
        act(x, 0, 2, 5, 4, 12, 11, 10);
        act(x, 1, 0, 5, 6, 10);
        // 5 + 1 - 3 = 3, ^ 6 is 5
        act(x, 1, 1, 5, 5, 20, 11, 10);
        act(x, 1, 2, 5, 10, 12, 20, 11, 10);
        // 3 * 5 + 2
        act(x, 2, 0, 5, 17, 30, 10);
        act(x, 2, 1, 5, 14, 11, 30, 10);
        act(x, 2, 2, 5, 28, 12, 11, 30, 10);
        act(x, 3, 0, 5, 8, 10);
        act(x, 3, 1, 5, 5, 11, 10);
        // names(5) * 2 + names(1): 10 + 1
        act(x, 3, 2, 5, 11, 40, 12, 11, 10, 11, 10);
        act(x, 4, 0, 5, -9, 50, 10);
        // points(6) is -10, less 3 is -13, ^ 6 is -11
        act(x, 4, 1, 5, -11, 51, 20, 11, 50, 10);
        act(x, 4, 2, 5, -22, 12, 51, 20, 11, 50, 10);
        act(x, 5, 0, 5, 20, 30, 10);
        act(x, 5, 1, 5, 17, 11, 30, 10);
        // x - 5 is 1: (3 + 5 - 3) * 2
        act(x, 5, 2, 6, 10, 60, 12, 11, 30, 10);
        // 5 + 6 is 11, ^ 3 is 8
        act(x, 6, 0, 5, 8, 71, 10);
        // 8 - 3 + (2 + 6)
        act(x, 6, 1, 5, 13, 70, 11, 71, 10, 10);
        // 13 * 2 + names(1): 7 ^ 3 is 4, less 3 is 1, and 8: 9
        act(x, 6, 2, 5, 35, 40, 12, 70, 11, 71, 10, 10, 70, 11, 71, 10, 10);
        act(x, 7, 0, 5, 0);
        act(x, 0, 0, 5, 5, 10);
        act(x, -1, 0, 5, 0);
        act(x, 0, 0, 5, 5, 10);
        act(x, 0, 3, 5, 0);
        act(x, 0, 0, 5, 5, 10);
        act(x, 0, -1, 5, 0);
    }

    private static void promise33ActWraps() {
        NamesBack x = kinds();
        act(x, 1, 0, HIGH, LOW, 10);
        act(x, 2, 0, HIGH, HIGH, 30, 10);
        act(x, 0, 1, LOW, HIGH - 2, 11, 10);
        act(x, 0, 2, LOW, -6, 12, 11, 10);
        act(x, 4, 0, HIGH, HIGH - 2, 50, 10);
        act(x, 5, 2, LOW, (((HIGH - 4) * 3 + 5) - 3) * 2, 60, 12, 11, 30, 10);
    }

    private static void promise34Trace() {
        NamesBack x = kinds();
        Check.due("34: none yet", x.trace(0), -1);
        x.act(6, 2, 1);
        Check.due("34: the first", x.trace(0), 40);
        Check.due("34: the last of twelve", x.trace(11), 10);
        Check.due("34: behind it", x.trace(12), -1);
        Check.due("34: below", x.trace(-1), -1);
        Check.due("34: far below", x.trace(LOW), -1);
        Check.due("34: far above", x.trace(HIGH), -1);
        x.act(0, 0, 1);
        Check.due("34: of the latest act alone", x.trace(1), -1);
        x.act(0, 7, 1);
        Check.due("34: none behind no act", x.trace(0), -1);
    }

    private static void promise35Taken() {
        NamesBack x = kinds();
        int[][] under = {{0}, {0, 1}, {0, 2}, {0, 3}, {0, 1, 4}, {0, 2, 5}, {0, 3, 6}};
        for (int place = 0; place < 7; place++) {
            for (int k = 0; k < 7; k++) {
                int kind = k;
                boolean is = java.util.Arrays.stream(under[place]).anyMatch(u -> u == kind);
                Check.due("35: " + place + " for " + k, x.taken(place, k), is ? place : -12);
            }
        }
        Check.due("35: k below", x.taken(0, -1), -2);
        Check.due("35: k above", x.taken(0, 7), -2);
        Check.due("35: BAD ahead of NOTHING", x.taken(7, 7), -2);
        Check.due("35: no place", x.taken(7, 0), -11);
        Check.due("35: below", x.taken(-1, 0), -11);
    }

    private static void promise36Count() {
        NamesBack x = kinds();
        x.traveller(0, 1, 1);
        x.traveller(0, 1, 1);
        x.book(0);
        x.book(0);
        x.book(0);
        Check.land(x, "arms 1");
        Check.feed(x, "arms");
        x.act(6, 2, 0);
        int[] due = {7, 1, 2, 3, 4, 12};
        for (int what = 0; what < 6; what++) {
            Check.due("36: count(" + what + ")", x.count(what), due[what]);
        }
        Check.due("36: below", x.count(-1), -2);
        Check.due("36: above", x.count(6), -2);
    }

    private static void promise37Tape() {
        NamesBack x = new NamesBack();
        for (int sort = 0; sort < 5; sort++) {
            Check.due("37: a row", x.tape(sort, sort, 60), 1);
            Check.due("37: all 0", x.read(sort, 59), 0);
            x.item(sort, 59, 1);
            Check.due("37: a row again", x.tape(sort, sort, 60), 1);
            Check.due("37: all 0 again", x.read(sort, 59), 0);
            Check.due("37: a row of none", x.tape(sort, sort, 0), 1);
            Check.due("37: no items", x.read(sort, 0), NamesBack.NO);
            Check.due("37: there is a row", x.item(sort, 0, 1), -13);
        }
        Check.due("37: the last TAPE", x.tape(5, 0, 1), 1);
        Check.due("37: holds nothing", x.tape(0, -1, 99), 1);
        Check.due("37: nothing is there", x.item(0, 0, 1), -11);
        Check.due("37: n does not matter", x.tape(0, -1, -99), 1);
        Check.due("37: no tape", x.tape(6, 0, 1), -1);
        Check.due("37: below", x.tape(-1, 0, 1), -1);
        Check.due("37: NONE ahead of BAD", x.tape(6, 9, 99), -1);
        Check.due("37: sort below", x.tape(0, -2, 1), -2);
        Check.due("37: sort above", x.tape(0, 5, 1), -2);
        Check.due("37: BAD ahead of SIZE", x.tape(0, 5, -1), -2);
        Check.due("37: n above", x.tape(0, 0, 61), -2);
        Check.due("37: n below", x.tape(0, 0, -1), -14);
        Check.due("37: n far below", x.tape(0, 0, LOW), -14);
        x.tape(1, 2, 2);
        x.item(1, 1, 9);
        x.tape(1, 2, -1);
        x.tape(1, 2, 61);
        Check.due("37: a refusal changes nothing", x.read(1, 1), 9);
    }

    private static void item(int sort, long v, long kept) {
        NamesBack x = new NamesBack();
        x.tape(0, sort, 3);
        Check.due("38: set", x.item(0, 1, v), 1);
        Check.due("38: " + v + " of sort " + sort, x.read(0, 1), kept);
        Check.due("38: the one ahead", x.read(0, 0), 0);
        Check.due("38: the one behind", x.read(0, 2), 0);
    }

    private static void promise38Item() {
        item(0, 127, 127);
        item(0, 128, -128);
        item(0, -129, 127);
        item(0, 256, 0);
        item(1, 32767, 32767);
        item(1, 32768, -32768);
        item(1, 65536, 0);
        item(2, 2147483647L, 2147483647L);
        item(2, 2147483648L, -2147483648L);
        item(2, 1L << 32, 0);
        item(3, Long.MAX_VALUE, Long.MAX_VALUE);
        item(3, Long.MIN_VALUE, Long.MIN_VALUE);
        item(4, 0, 0);
        item(4, 1, 1);
        item(4, 2, 1);
        item(4, -1, 1);
        item(4, 1L << 40, 1);
        NamesBack x = new NamesBack();
        Check.due("38: nothing", x.item(0, 0, 1), -11);
        Check.due("38: NOTHING ahead of PLACE", x.item(0, -1, 1), -11);
        Check.due("38: no tape", x.item(6, 0, 1), -1);
        Check.due("38: below", x.item(-1, 0, 1), -1);
        x.tape(0, 0, 2);
        Check.due("38: the first", x.item(0, 0, 1), 1);
        Check.due("38: the last", x.item(0, 1, 1), 1);
        Check.due("38: behind it", x.item(0, 2, 1), -13);
        Check.due("38: ahead of the first", x.item(0, -1, 1), -13);
        Check.due("38: far behind", x.item(0, HIGH, 1), -13);
        Check.due("38: far ahead", x.item(0, LOW, 1), -13);
    }

    private static void promise39Read() {
        NamesBack x = new NamesBack();
        Check.due("39: nothing", x.read(0, 0), NamesBack.NO);
        x.tape(0, 3, 2);
        x.item(0, 1, -7);
        Check.due("39: the first", x.read(0, 0), 0);
        Check.due("39: the last", x.read(0, 1), -7);
        Check.due("39: behind it", x.read(0, 2), NamesBack.NO);
        Check.due("39: ahead", x.read(0, -1), NamesBack.NO);
        Check.due("39: far behind", x.read(0, HIGH), NamesBack.NO);
        Check.due("39: far ahead", x.read(0, LOW), NamesBack.NO);
        Check.due("39: no tape", x.read(6, 0), NamesBack.NO);
        Check.due("39: below", x.read(-1, 0), NamesBack.NO);
    }

    private static long digits(NamesBack x, int tape, int n) {
        long all = 0;
        for (int i = 0; i < n; i++) {
            all = all * 10 + x.read(tape, i);
        }
        return all;
    }

    private static NamesBack counted(int sort) {
        NamesBack x = new NamesBack();
        x.tape(0, sort, 6);
        x.tape(1, sort, 4);
        for (int i = 0; i < 6; i++) {
            x.item(0, i, i + 1);
        }
        return x;
    }

    private static void promise40Shift() {
        NamesBack x = counted(1);
        Check.due("40: to another", x.shift(0, 1, 1, 0, 3), 3);
        Check.due("40: it has them", digits(x, 1, 4), 2340);
        Check.due("40: the one stays", digits(x, 0, 6), 123456);
        Check.due("40: on, over itself", x.shift(0, 0, 0, 2, 4), 4);
        Check.due("40: as they were before", digits(x, 0, 6), 121234);
        x = counted(3);
        Check.due("40: back, over itself", x.shift(0, 2, 0, 0, 4), 4);
        Check.due("40: as they were before, back", digits(x, 0, 6), 345656);
        x = counted(4);
        Check.due("40: booleans", x.shift(0, 0, 1, 0, 4), 4);
        Check.due("40: all true", digits(x, 1, 4), 1111);
        Check.due("40: no tape", x.shift(6, 0, 1, 0, 1), -1);
        Check.due("40: no other", x.shift(0, 0, -1, 0, 1), -1);
        Check.due("40: the one holds nothing", x.shift(2, 0, 0, 0, 1), -11);
        Check.due("40: the other holds nothing", x.shift(0, 0, 2, 0, 1), -11);
        Check.due("40: NOTHING ahead of PLACE", x.shift(0, -1, 2, 0, -1), -11);
        x.tape(2, 0, 6);
        Check.due("40: unlike sorts", x.shift(0, 0, 2, 0, 1), -12);
        Check.due("40: CAST ahead of PLACE", x.shift(0, -1, 2, 0, 99), -12);
    }

    private static void promise40ShiftEnds() {
        NamesBack x = counted(2);
        Check.due("40: none", x.shift(0, 6, 1, 4, 0), 0);
        Check.due("40: i beyond", x.shift(0, 7, 1, 0, 0), -13);
        Check.due("40: j beyond", x.shift(0, 0, 1, 5, 0), -13);
        Check.due("40: the one ends", x.shift(0, 4, 1, 0, 3), -13);
        Check.due("40: the other ends", x.shift(0, 0, 1, 2, 3), -13);
        Check.due("40: n below", x.shift(0, 1, 1, 1, -1), -13);
        Check.due("40: i below", x.shift(0, -1, 1, 0, 1), -13);
        Check.due("40: j below", x.shift(0, 0, 1, -1, 1), -13);
        Check.due("40: i wraps", x.shift(0, HIGH, 1, 0, HIGH), -13);
        Check.due("40: j wraps", x.shift(0, 1, 1, HIGH, HIGH), -13);
        Check.due("40: n far below", x.shift(0, 1, 1, 1, LOW), -13);
        Check.due("40: a refusal changes nothing", digits(x, 1, 4), 0);
        Check.due("40: to the end", x.shift(0, 2, 1, 0, 4), 4);
        Check.due("40: it has them", digits(x, 1, 4), 3456);
    }
}
