/** Promises 1 to 11: places, roads, names, travellers, the text, lands. */
final class PlacesTest {
    private PlacesTest() {
    }

    public static void main(String[] args) {
        promise1New();
        promise2Place();
        promise3Of();
        promise4Road();
        promise5Far();
        promise6Name();
        promise7Strike();
        promise8Traveller();
        promise9Feed();
        promise10Land();
        promise10Faults();
        promise10Clauses();
        promise10BehindFaults();
        promise11Told();
        Check.end("PlacesTest");
    }

    private static NamesBack places(int many) {
        NamesBack x = new NamesBack();
        for (int p = 0; p < many; p++) {
            x.place(0, 0, 10 * p);
        }
        return x;
    }

    private static void promise1New() {
        NamesBack x = new NamesBack();
        for (int what = 0; what < 6; what++) {
            Check.due("1: count(" + what + ")", x.count(what), 0);
        }
        Check.due("1: of(0, 0)", x.of(0, 0), -1);
        Check.due("1: arms without a LAND", x.told(0), 4);
        Check.due("1: no NAMES", x.told(1), 0);
        Check.due("1: no image", x.undo(), -3);
        Check.due("1: no TRACE", x.trace(0), -1);
        Check.due("1: TAPES hold nothing", x.item(0, 0, 1), -11);
        Check.due("1: the first LAND is 0", Check.land(x, "arms 1"), 0);
    }

    private static void promise2Place() {
        NamesBack x = new NamesBack();
        Check.due("2: kind below", x.place(-1, 0, 0), -1);
        Check.due("2: kind above", x.place(7, 0, 0), -1);
        Check.due("2: kind ahead of v", x.place(7, 10, 100), -1);
        Check.due("2: v below", x.place(0, -1, 0), -2);
        Check.due("2: v above", x.place(0, 10, 0), -2);
        Check.due("2: people below", x.place(0, 0, -1), -2);
        Check.due("2: people above", x.place(0, 0, 100), -2);
        Check.due("2: nothing came of it", x.count(0), 0);
        for (int p = 0; p < 7; p++) {
            Check.due("2: its number", x.place(p, 9 - p, 99), p);
        }
        Check.due("2: full", x.place(0, 0, 0), -4);
        Check.due("2: BAD ahead of FULL", x.place(0, 0, 100), -2);
        Check.due("2: NONE ahead of FULL", x.place(9, 0, 0), -1);
        Check.due("2: seven", x.count(0), 7);
    }

    private static void promise3Of() {
        NamesBack x = new NamesBack();
        x.place(3, 7, 42);
        x.place(1, 0, 5);
        x.place(1, 0, 5);
        x.name(0, 2);
        x.road(0, 1, 3);
        x.road(2, 0, 9);
        int[] due = {3, 7, 42, 42, 4, 6};
        for (int what = 0; what < due.length; what++) {
            Check.due("3: of(0, " + what + ")", x.of(0, what), due[what]);
        }
        Check.due("3: named by both", x.of(2, 4), 1);
        Check.due("3: roads both ways", x.of(2, 5), 1);
        Check.due("3: what below", x.of(0, -1), -1);
        Check.due("3: what above", x.of(0, 6), -1);
        Check.due("3: no such place", x.of(3, 0), -1);
        Check.due("3: below", x.of(-1, 0), -1);
        // great of two clauses that hold, one that does not
        Check.land(x, "great 10 p<9;great 5 c=4;great 70 c=5");
        Check.due("3: SIZE", x.of(0, 3), 57);
        Check.due("3: SIZE of another", x.of(1, 3), 15);
        Check.due("3: PEOPLE stay", x.of(0, 2), 42);
    }

    private static void promise4Road() {
        NamesBack x = places(3);
        Check.due("4: had none", x.road(0, 1, 7), 0);
        Check.due("4: had 7, both ways", x.road(1, 0, 99), 7);
        Check.due("4: had 99", x.road(0, 1, 0), 99);
        Check.due("4: none again", x.road(0, 1, 1), 0);
        Check.due("4: one PLACE", x.road(1, 1, 5), -2);
        Check.due("4: miles below", x.road(0, 1, -1), -2);
        Check.due("4: miles above", x.road(0, 1, 100), -2);
        Check.due("4: no other", x.road(0, 3, 5), -1);
        Check.due("4: no one", x.road(-1, 0, 5), -1);
        Check.due("4: NONE ahead of BAD", x.road(3, 3, 100), -1);
        Check.due("4: a refusal changes nothing", x.road(0, 1, 2), 1);
    }

    private static void promise5Far() {
        NamesBack x = places(3);
        x.road(0, 1, 7);
        x.road(1, 2, 5);
        Check.due("5: miles", x.far(0, 1), 7);
        Check.due("5: both ways", x.far(1, 0), 7);
        Check.due("5: none", x.far(0, 2), 0);
        Check.due("5: one PLACE", x.far(1, 1), 0);
        Check.due("5: no one", x.far(3, 0), -1);
        Check.due("5: no other", x.far(0, -1), -1);
        // what far asks is asked of the lesser of the two: 1 has two ROADS, 0 one
        Check.land(x, "far 10 r=1;far 3 p=1;far 20 p=2;far 1 p=0");
        Check.due("5: LONG of 0, 1", x.far(0, 1), 18);
        Check.due("5: LONG of 1, 0", x.far(1, 0), 18);
        Check.due("5: LONG of 2, 1", x.far(2, 1), 8);
        Check.due("5: still none", x.far(0, 2), 0);
    }

    private static void promise6Name() {
        NamesBack x = places(6);
        Check.due("6: one", x.name(0, 1), 1);
        Check.due("6: two", x.name(0, 2), 2);
        Check.due("6: of the one", x.name(1, 2), 2);
        Check.due("6: they do", x.name(2, 0), -3);
        Check.due("6: one PLACE", x.name(1, 1), -2);
        Check.due("6: no other", x.name(0, 6), -1);
        Check.due("6: NONE ahead of BAD", x.name(6, 6), -1);
        x.name(0, 3);
        Check.due("6: four are so many arms", x.name(4, 0), 1);
        Check.due("6: the one has no arm", x.name(0, 5), -4);
        Check.due("6: the other has none", x.name(5, 0), -4);
        Check.due("6: STATE ahead of FULL", x.name(0, 4), -3);
        Check.land(x, "arms 2");
        Check.due("6: more than arms are named", x.name(0, 5), -4);
        Check.due("6: fewer arms strike none off", x.told(1), 5);
        Check.due("6: within 2 arms", x.name(3, 4), 2);
        Check.land(x, "arms 0");
        Check.due("6: no arms", x.name(5, 3), -4);
    }

    private static void promise7Strike() {
        NamesBack x = places(3);
        x.name(0, 1);
        x.name(0, 2);
        Check.due("7: one left", x.strike(0, 1), 1);
        Check.due("7: they do not", x.strike(1, 0), -3);
        Check.due("7: of the one", x.strike(2, 0), 0);
        Check.due("7: one PLACE", x.strike(1, 1), -3);
        Check.due("7: no such", x.strike(0, 3), -1);
        Check.due("7: below", x.strike(-1, 0), -1);
        Check.due("7: none", x.told(1), 0);
    }

    private static void promise8Traveller() {
        NamesBack x = places(2);
        Check.due("8: no from", x.traveller(2, 0, 1), -1);
        Check.due("8: no to", x.traveller(0, -1, 1), -1);
        Check.due("8: NONE ahead of BAD", x.traveller(2, 2, 0), -1);
        Check.due("8: one PLACE", x.traveller(1, 1, 1), -2);
        Check.due("8: many below", x.traveller(0, 1, 0), -2);
        Check.due("8: many above", x.traveller(0, 1, 100), -2);
        for (int t = 0; t < 8; t++) {
            Check.due("8: its number", x.traveller(t % 2, 1 - t % 2, t == 0 ? 99 : t), t);
        }
        Check.due("8: full", x.traveller(0, 1, 1), -4);
        Check.due("8: BAD ahead of FULL", x.traveller(0, 1, 100), -2);
        Check.due("8: eight", x.count(2), 8);
    }

    private static void promise9Feed() {
        NamesBack x = new NamesBack();
        Check.due("9: below", x.feed(-1), -2);
        Check.due("9: above", x.feed(128), -2);
        for (int k = 1; k <= 100; k++) {
            Check.due("9: how many", x.feed(k == 1 ? 0 : 127), k);
        }
        Check.due("9: full", x.feed(1), -4);
        Check.due("9: BAD ahead of FULL", x.feed(200), -2);
        Check.due("9: 100", x.count(4), 100);
    }

    private static void promise10Land() {
        NamesBack x = places(1);
        for (int k = 0; k < 6; k++) {
            Check.due("10: its number", Check.land(x, "great " + k + "0 p=0"), k);
            Check.due("10: the newest holds", x.of(0, 3), 10 * k);
            Check.due("10: the text is empty", x.count(4), 0);
            if (k < 5) {
                Check.due("10: a fault", Check.land(x, "great 7 p=0;"), -22);
                Check.due("10: the one that held holds", x.of(0, 3), 10 * k);
                Check.due("10: the text is empty after a fault", x.count(4), 0);
            }
        }
        Check.due("10: six", Check.land(x, "arms 1"), -4);
        Check.due("10: the text stays", x.count(4), 6);
        Check.due("10: the sixth holds", x.of(0, 3), 50);
        Check.due("10: LANDS", x.count(1), 6);
    }

    private static void fault(String text, int fault) {
        Check.due("10: " + text, Check.land(new NamesBack(), text), -10 - fault);
    }

    private static void isLand(String text) {
        Check.due("10: " + text, Check.land(new NamesBack(), text), 0);
    }

    private static void promise10Faults() {
        fault("", 0);
        fault("x", 0);
        fault("G", 0);
        fault(" great 1 p=1", 0);
        fault("g", 1);
        fault("grate 1 p=1", 2);
        fault("fat 1 p=1", 2);
        fault("arm 1", 3);
        fault("great", 5);
        fault("great1 p=1", 5);
        fault("great  1 p=1", 6);
        fault("great x p=1", 6);
        fault("great 1", 7);
        fault("great 12", 8);
        fault("great 123 p=1", 8);
        fault("great 12p=1", 8);
        fault("great 12  p=1", 9);
        fault("great 12 q=1", 9);
        fault("great 12 p", 10);
        fault("great 12 p1", 10);
        fault("great 12 (p)", 11);
        fault("great 12 p;arms 1", 10);
        fault("great 12 p==1", 11);
        fault("great 12 p=", 11);
        fault("great 12 p=x", 11);
        fault("great 12 p=123", 13);
        fault("great 12 p=1 ", 12);
        fault("great 12 p=1)", 12);
        fault("great 12 p=1!", 12);
        fault("great 12 p=1&", 13);
        fault("great 12 p=1|", 13);
        fault("great 12 p=1&&p=2", 13);
        fault("great 12 p=1|&p=2", 13);
        fault("great 12 ()", 10);
        fault("great 12 (p=1", 13);
        fault("great 12 (p=1;", 13);
        fault("great 12 (p=1&p=2", 17);
        fault("great 12 !", 10);
        fault("great 12 !)", 10);
        fault("great 12 (!)", 11);
        fault("great 12 (p=)", 12);
        fault("arms", 4);
        fault("arms ", 5);
        fault("arms -1", 5);
        fault("arms 1 p=1", 6);
        fault("arms 100", 7);
        fault("arms 1;", 7);
        fault("arms 1;;", 7);
        fault("arms 1; arms 2", 7);
        fault("arms 1,arms 2", 6);
        // the fifth ( or ! stands within 4 others
        isLand("great 1 ((((p=1))))");
        fault("great 1 (((((p=1)))))", 12);
        isLand("great 1 !!!!p=1");
        fault("great 1 !!!!!p=1", 12);
        isLand("great 1 !(!(p=1))&!(!(p=1))");
        isLand("great 1 (!(!p=1))");
        fault("great 1 (!(!(p=1)))", 12);
        fault("far 1 !(!(!p=1))", 10);
        // one is behind the other here, not within it
        isLand("far 1 (p=1)&(p=1)&(p=1)&(p=1)&(p=1)&!p=1&!p=2");
        // ten CLAUSES, and the ; with which none goes on
        String ten = "arms 1;arms 2;arms 3;arms 4;arms 5;arms 6;arms 7;arms 8;arms 9;arms 10";
        isLand(ten);
        fault(ten + ";", ten.length());
        fault(ten + ";arms 1", ten.length());
        // numbers with a 0 ahead, and 100 signs
        isLand("great 00 p=00");
        String hundred = "great 1 p=11" + "|k=1&v>2".repeat(11);
        Check.due("10: a hundred signs", hundred.length(), 100);
        isLand(hundred);
    }

    /** SIZE of a PLACE 1 (KIND 4, v 6, 57 PEOPLE, two names, three roads) with a CLAUSE of 30. */
    private static void holds(String either, boolean is) {
        NamesBack x = new NamesBack();
        x.place(0, 0, 0);
        x.place(4, 6, 57);
        x.place(0, 0, 0);
        x.place(0, 0, 0);
        x.name(1, 0);
        x.name(1, 2);
        x.road(1, 0, 1);
        x.road(1, 2, 1);
        x.road(1, 3, 1);
        Check.due("10: " + either + " is read", Check.land(x, "great 30 " + either), 0);
        Check.due("10: " + either, x.of(1, 3), is ? 87 : 57);
    }

    private static void promise10Clauses() {
        holds("p=1", true);
        holds("p<1", false);
        holds("p>1", false);
        holds("p<2", true);
        holds("p>0", true);
        holds("k=4", true);
        holds("v=6", true);
        holds("c=5", true);
        holds("c=6", false);
        holds("n=2", true);
        holds("r=3", true);
        holds("v<10", true);
        holds("p<99", true);
        holds("r<99", true);
        holds("r<3", false);
        holds("p>99", false);
        holds("p=99", false);
        holds("v=06", true);
        holds("!p=1", false);
        holds("!p=0", true);
        holds("!!p=1", true);
        holds("p=0|p=1", true);
        holds("p=0&p=1", false);
        // & binds before |
        holds("p=1|p=0&p=0", true);
        holds("(p=1|p=0)&p=0", false);
        holds("p=0&p=0|p=1", true);
        holds("p=0&(p=0|p=1)", false);
        holds("p=0|p=1&v=6&k=4", true);
        holds("p=0|p=1&v=5|k=3", false);
        // ! is of one F alone
        holds("!p=0&p=0", false);
        holds("!(p=0&p=0)", true);
        holds("!p=1|p=1", true);
        holds("!(p=1|p=1)", false);
        holds("(!(p=1&(v=6|n=9)))", false);
    }

    /** What a faulty text told is of no LAND: it stands neither in the one that holds nor in the next one. */
    private static void promise10BehindFaults() {
        NamesBack x = places(1);
        String long1 = "arms 9;great 1 p=0" + "|p=0".repeat(18) + ";great";
        for (int k = 0; k < 4; k++) {
            Check.due("10: a long fault", Check.land(x, long1), -10 - long1.length());
        }
        Check.due("10: the next one", Check.land(x, "great 5 p=1" + "|p=1".repeat(21)), 0);
        Check.due("10: its E does not hold", x.of(0, 3), 0);
        Check.due("10: 4 without", x.told(0), 4);
        for (int k = 0; k < 4; k++) {
            Check.land(x, long1.replace("p=0", "p=1"));
        }
        Check.due("10: one behind that", Check.land(x, "great 5 p=1" + "|p=1".repeat(20) + "|p=0"), 1);
        Check.due("10: its SIZE alone", x.of(0, 3), 5);
        // ten CLAUSES, each of which counts: 99 signs would not hold ten of great, so eight of them are arms
        String ten = "great 7 p=0;" + "arms 1;".repeat(8) + "great 3 p=0";
        Check.due("10: the first and the tenth", Check.land(x, ten), 2);
        Check.due("10: both count", x.of(0, 3), 10);
    }

    private static void promise11Told() {
        NamesBack x = places(4);
        Check.due("11: arms without a LAND", x.told(0), 4);
        x.name(0, 1);
        x.name(1, 2);
        x.name(3, 1);
        Check.due("11: NAMES", x.told(1), 3);
        Check.land(x, "arms 7;far 1 p=1;arms 2");
        Check.due("11: the last arms", x.told(0), 2);
        Check.due("11: NAMES stay", x.told(1), 3);
        Check.land(x, "great 1 p=1");
        Check.due("11: 4 without", x.told(0), 4);
        Check.land(x, "arms 99;q");
        Check.due("11: a fault changes nothing", x.told(0), 4);
        Check.due("11: what above", x.told(2), -1);
        Check.due("11: what below", x.told(-1), -1);
    }
}
