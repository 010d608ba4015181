/** Promises 18 to 24: what to put up, to strike off, false arms, chains, capitals, new roads. */
final class ArmsTest {
    private ArmsTest() {
    }

    public static void main(String[] args) {
        promise18Put();
        promise18PutArms();
        promise19Worst();
        promise20Turned();
        promise20TurnedWraps();
        promise20TurnedByAny();
        promise21Chain();
        promise22AllIn();
        promise23Capitals();
        promise24NewRoad();
        promise24NewRoadByLand();
        Check.end("ArmsTest");
    }

    /** 0 - 1 - 2 - 3, a mile each, all of KIND 0. */
    private static NamesBack line() {
        NamesBack x = new NamesBack();
        for (int p = 0; p < 4; p++) {
            x.place(0, 0, 0);
            x.road(p - 1, p, 1);
        }
        return x;
    }

    private static void promise18Put() {
        NamesBack x = line();
        // 0-1 or 2-3 put up: 5 are LOST then; 0-2: 0 and 2 find one another, the other four are LOST;
        // 0-3, 1-2, 1-3: four as well
        Check.due("18: of several the first", x.put(0), 2);
        Check.due("18: LOST then", x.put(1), 4);
        Check.due("18: nothing is put up", x.told(1), 0);
        Check.due("18: as many are LOST now", x.lost(1), 6);
        Check.due("18: what", x.put(2), -1);
        Check.due("18: what below", x.put(-1), -1);
        x.name(0, 2);
        x.name(0, 3);
        x.name(1, 3);
        x.name(1, 2);
        x.name(0, 1);
        Check.due("18: the last pair", x.put(0), 23);
        x.name(3, 2);
        Check.due("18: all are up", x.put(0), -5);
        Check.due("18: all are up, LOST", x.put(1), -5);
        Check.due("18: no PLACES", new NamesBack().put(1), -5);
    }

    private static void promise18PutArms() {
        NamesBack x = line();
        Check.land(x, "arms 1");
        x.name(0, 2);
        Check.due("18: 0, 2 have no arm left", x.put(0), 13);
        Check.land(x, "arms 0");
        Check.due("18: no arms", x.put(0), -5);
        Check.due("18: no arms, LOST", x.put(1), -5);
        NamesBack y = new NamesBack();
        y.place(0, 0, 0);
        y.place(0, 0, 0);
        Check.due("18: alone, without ROADS", y.put(0), 1);
        Check.due("18: both are LOST still", y.put(1), 2);
    }

    private static void promise19Worst() {
        NamesBack x = line();
        Check.due("19: no NAMES", x.worst(0), -5);
        Check.due("19: no NAMES, LOST", x.worst(1), -5);
        x.name(0, 1);
        Check.due("19: the one", x.worst(0), 1);
        Check.due("19: as without it", x.worst(1), 6);
        x.name(1, 2);
        x.name(2, 3);
        // who is at 1 or 2 is sent to the lesser one: 0 to 3 and 1 to 3 are LOST
        Check.due("19: LOST now", x.lost(1), 2);
        // without 0-1: 0 to 2 and 0 to 3; without 1-2: 0 to 3, 1 to 3, 2 to 0, 3 to 0;
        // without 2-3: 0 to 3, 1 to 3, 3 to 0, 3 to 1
        Check.due("19: of several the first", x.worst(0), 12);
        Check.due("19: LOST then", x.worst(1), 4);
        Check.due("19: nothing is struck off", x.told(1), 3);
        Check.due("19: as many are LOST now", x.lost(1), 2);
        Check.due("19: what", x.worst(2), -1);
        Check.due("19: what below", x.worst(-1), -1);
    }

    private static void promise20Turned() {
        NamesBack x = line();
        x.name(1, 2);
        // 0 and 3 name nothing: 0 to 2, 0 to 3, 3 to 0, 3 to 1 are LOST
        Check.due("20: LOST now", x.lost(1), 4);
        // at 1 TOWARD 3, which is TOWARD 2 as well
        Check.due("20: 3 for 2", x.turned(1, 2), 4);
        // 2 is behind 1 and is this PLACE, so it is 3: 2 to 1 and 2 to 0 go there, and 3 names nothing
        Check.due("20: 3 for 1", x.turned(2, 1), 6);
        Check.due("20: the arm is right again", x.lost(1), 4);
        Check.due("20: not named there", x.turned(0, 1), -3);
        Check.due("20: one PLACE", x.turned(1, 1), -3);
        Check.due("20: no place", x.turned(4, 1), -1);
        Check.due("20: no named", x.turned(1, -1), -1);
    }

    private static void promise20TurnedWraps() {
        NamesBack x = line();
        x.name(0, 3);
        // behind the last is the first, that is this PLACE, so it is 1: by the same ROAD
        Check.due("20: 1 for 3 at 0", x.turned(0, 3), x.lost(1));
        // and from 3 it is 1 for 0: by the same ROAD
        Check.due("20: 1 for 0 at 3", x.turned(3, 0), x.lost(1));
        x.name(1, 3);
        // 2 to 0 and 3 to 0 are LOST at 2, that names nothing
        Check.due("20: LOST now", x.lost(1), 2);
        // at 1 TOWARD 0 for 3: 1 to 3 and 0 to 3 go to 0, which sends them back
        Check.due("20: the first is behind the last", x.turned(1, 3), 4);
        NamesBack two = new NamesBack();
        two.place(0, 0, 0);
        two.place(0, 0, 0);
        two.road(0, 1, 1);
        two.name(0, 1);
        Check.due("20: with two PLACES it is the same one", two.turned(0, 1), 0);
        Check.due("20: and so at the other", two.turned(1, 0), 0);
    }

    private static void promise20TurnedByAny() {
        // 1 is ASKING and has a ROAD to 0 and one to 2; whoever goes TOWARD 2 there, wanting to 2, is sent to 0
        NamesBack x = new NamesBack();
        x.place(0, 0, 0);
        x.place(4, 0, 0);
        x.place(0, 0, 0);
        x.road(0, 1, 1);
        x.road(1, 2, 1);
        x.name(1, 2);
        Check.due("20: LOST now", x.lost(1), 1);
        // 1 to 2 is sent to 0, that has no name: LOST; 0 to 2 is LOST at 0
        Check.due("20: who wants to it", x.turned(1, 2), 2);
        // an arm to which there is no WAY: who would go TOWARD it goes TOWARD the next one
        NamesBack y = new NamesBack();
        y.place(0, 0, 0);
        y.place(0, 0, 0);
        y.place(0, 0, 0);
        y.place(0, 0, 0);
        y.road(0, 2, 1);
        y.road(2, 3, 1);
        y.name(0, 1);
        Check.due("20: 0 to 3 and 3 to 0 and six with 1 are LOST", y.lost(1), 8);
        Check.due("20: 2 for 1: 0 comes to 3 then", y.turned(0, 1), 7);
    }

    private static void promise21Chain() {
        NamesBack x = new NamesBack();
        for (int p = 0; p < 7; p++) {
            x.place(0, 0, 0);
        }
        for (int p = 1; p < 7; p++) {
            x.name(p - 1, p);
        }
        Check.due("21: at once", x.chain(0, 1), 1);
        Check.due("21: the longest", x.chain(0, 6), 6);
        Check.due("21: back", x.chain(6, 0), 6);
        x.name(1, 5);
        Check.due("21: the fewest", x.chain(0, 6), 3);
        x.strike(0, 1);
        Check.due("21: never", x.chain(0, 6), -5);
        Check.due("21: never back", x.chain(6, 0), -5);
        Check.due("21: one PLACE", x.chain(2, 2), -2);
        Check.due("21: no one", x.chain(7, 0), -1);
        Check.due("21: no other", x.chain(0, -1), -1);
        Check.due("21: NONE ahead of BAD", x.chain(7, 7), -1);
    }

    private static void promise22AllIn() {
        NamesBack x = new NamesBack();
        for (int n = 1; n <= 6; n++) {
            Check.due("22: no PLACES", x.allIn(n), 1);
        }
        x.place(0, 0, 0);
        Check.due("22: one PLACE", x.allIn(1), 1);
        for (int p = 1; p < 7; p++) {
            x.place(0, 0, 0);
            Check.due("22: no names", x.allIn(6), 0);
            x.name(p - 1, p);
            Check.due("22: n of the longest", x.allIn(p), 1);
            if (p > 1) {
                Check.due("22: fewer", x.allIn(p - 1), 0);
            }
        }
        x.name(0, 6);
        Check.due("22: round, 3", x.allIn(3), 1);
        Check.due("22: round, 2", x.allIn(2), 0);
        Check.due("22: n below", x.allIn(0), -2);
        Check.due("22: n above", x.allIn(7), -2);
    }

    private static void promise23Capitals() {
        NamesBack x = new NamesBack();
        Check.due("23: no PLACES", x.capitals(), 0);
        for (int p = 0; p < 5; p++) {
            x.place(0, 0, 0);
        }
        Check.due("23: none is named", x.capitals(), 31);
        x.name(1, 3);
        Check.due("23: two", x.capitals(), 10);
        x.name(3, 4);
        Check.due("23: one", x.capitals(), 8);
        x.name(4, 0);
        Check.due("23: two again", x.capitals(), 24);
    }

    private static void promise24NewRoad() {
        NamesBack x = line();
        // WAYS: 0-1 1, 0-2 2, 0-3 3, 1-2 1, 1-3 2, 2-3 1: 10, both ways 20; with 0-3 of 1 mile 0-3 is 1: 16;
        // with 0-2 of 1: 0-2 1, 0-3 2: 16; with 1-3 of 1: 16
        Check.due("24: the first", x.newRoad(1, 0), 2);
        Check.due("24: how much less", x.newRoad(1, 1), 4);
        Check.due("24: of no use, the first", x.newRoad(99, 0), 2);
        Check.due("24: 0 less", x.newRoad(99, 1), 0);
        Check.due("24: no ROAD is made", x.far(0, 2), 0);
        x.road(2, 3, 50);
        // 3 is 50 off: 0-3 52, 1-3 51, 2-3 50; with 0-3 of 10: 0-3 10, 1-3 11, 2-3 12: 120 each way less;
        // with 1-3 of 10: 11, 10, 11: 121 each way less
        Check.due("24: the best", x.newRoad(10, 0), 13);
        Check.due("24: how much less then", x.newRoad(10, 1), 242);
        x.road(2, 3, 0);
        // none: 999 each; with 1-3 of 10: 11, 10, 11
        Check.due("24: where there was none", x.newRoad(10, 0), 13);
        Check.due("24: 999 for each", x.newRoad(10, 1), 2 * (3 * 999 - 32));
        Check.due("24: what", x.newRoad(1, 2), -1);
        Check.due("24: n below", x.newRoad(0, 0), -2);
        Check.due("24: n above", x.newRoad(100, 0), -2);
        Check.due("24: NONE ahead of BAD", x.newRoad(0, -1), -1);
        NamesBack two = new NamesBack();
        two.place(0, 0, 0);
        Check.due("24: no pair", two.newRoad(1, 1), -5);
        two.place(0, 0, 0);
        two.road(0, 1, 5);
        Check.due("24: all have ROADS", two.newRoad(1, 0), -5);
        Check.due("24: all have ROADS, less", two.newRoad(1, 1), -5);
    }

    private static void promise24NewRoadByLand() {
        NamesBack x = line();
        x.road(2, 3, 0);
        x.road(1, 3, 1);
        // a ROAD more at 0, 1 makes their ROADS longer by 10 (0: two ROADS, 1: three already)
        Check.land(x, "far 10 r=2");
        // 0-1 1, 1-2 1, 1-3 1: 2 * (3 + 3 * 2) = 18 now
        // 0-2 of 1: 0 has two: 0-1 11, 0-2 11: 0-1 11, 0-2 11, 0-3 12, 1-2 1, 1-3 1, 2-3 2: 76; 0-3 likewise
        // 2-3 of 1: 2 has two: 2-3 11, by 1 it is 2: 18
        Check.due("24: 2, 3", x.newRoad(1, 0), 23);
        Check.due("24: 0 less", x.newRoad(1, 1), 0);
        x.road(2, 3, 1);
        Check.due("24: the best makes all longer", x.newRoad(1, 0), 2);
        Check.due("24: below 0", x.newRoad(1, 1) < 0 ? 1 : 0, 1);
    }
}
