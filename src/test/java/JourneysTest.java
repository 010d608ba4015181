/** Promises 12 to 17: ways and journeys, post by post. */
final class JourneysTest {
    private JourneysTest() {
    }

    public static void main(String[] args) {
        promise12Way();
        promise13Toward();
        promise14NextNamed();
        promise14NextByKind();
        promise14NextByEnds();
        promise14NextByDrowned();
        promise14NextByCapital();
        promise14NextNowhere();
        promise15Gone();
        promise16Lost();
        promise17Longest();
        Check.end("JourneysTest");
    }

    /** PLACES in a row, each a mile times its number behind 0 from the one ahead of it: 0 -1- 1 -2- 2 -3- 3 .. */
    static NamesBack row(int... kinds) {
        NamesBack x = new NamesBack();
        for (int p = 0; p < kinds.length; p++) {
            x.place(kinds[p], 0, 0);
            x.road(p - 1, p, p);
        }
        return x;
    }

    private static void promise12Way() {
        NamesBack x = row(0, 0, 0, 0, 0);
        x.road(3, 4, 0);
        Check.due("12: a row", x.way(0, 3), 6);
        Check.due("12: back", x.way(3, 0), 6);
        Check.due("12: one PLACE", x.way(2, 2), 0);
        Check.due("12: none", x.way(0, 4), -5);
        Check.due("12: no other", x.way(0, 5), -1);
        Check.due("12: no one", x.way(-1, 0), -1);
        x.road(0, 3, 5);
        Check.due("12: by the shorter", x.way(0, 3), 5);
        Check.due("12: round", x.way(2, 0), 3);
        // with the LAND the direct ROAD is the longer one, as 0 is the lesser of the two
        Check.land(x, "far 9 p=0");
        Check.due("12: LONG, not MILES", x.way(0, 3), 14);
        Check.due("12: by LONG", x.way(1, 3), 5);
    }

    private static void promise13Toward() {
        NamesBack x = row(0, 0, 0, 0, 0);
        x.road(3, 4, 0);
        Check.due("13: first", x.toward(0, 3), 1);
        Check.due("13: back", x.toward(3, 0), 2);
        Check.due("13: at once", x.toward(1, 2), 2);
        Check.due("13: one PLACE", x.toward(1, 1), -5);
        Check.due("13: none", x.toward(0, 4), -5);
        Check.due("13: no other", x.toward(0, 5), -1);
        Check.due("13: no one", x.toward(5, 0), -1);
        x.road(0, 3, 6);
        Check.due("13: of two alike the least", x.toward(0, 3), 1);
        Check.due("13: of two alike back", x.toward(3, 0), 0);
        x.road(0, 3, 5);
        Check.due("13: the shorter", x.toward(0, 3), 3);
        // a ROAD to it that is longer than the way round
        x.road(0, 2, 50);
        Check.due("13: round", x.toward(0, 2), 1);
    }

    private static void promise14NextNamed() {
        NamesBack x = row(6, 0, 0, 0);
        Check.due("14: a ROAD to it", x.next(0, 1), 1);
        Check.due("14: DROWNED, not named", x.next(0, 3), -5);
        x.name(0, 3);
        Check.due("14: named: TOWARD it", x.next(0, 3), 1);
        x.road(0, 3, 90);
        Check.due("14: a ROAD to it, but TOWARD it", x.next(0, 3), 1);
        Check.due("14: one PLACE", x.next(2, 2), -2);
        Check.due("14: no place", x.next(4, 0), -1);
        Check.due("14: no to", x.next(0, -1), -1);
        Check.due("14: NONE ahead of BAD", x.next(4, 4), -1);
        NamesBack y = new NamesBack();
        y.place(0, 0, 0);
        y.place(0, 0, 0);
        y.place(0, 0, 0);
        y.name(0, 2);
        y.name(0, 1);
        y.road(0, 1, 3);
        Check.due("14: named, but no WAY to it", y.next(0, 2), -5);
    }

    /**
     * A post 0 of a KIND, named 2 (40 PEOPLE), 3 (70) and 4 (70), in a star round 5: 2, 3, 4 are 8, 5, 9 miles from 5,
     * 1 and 6 hang on 2 and 3. Who wants to 6 from 0 goes by his post.
     */
    private static NamesBack star(int kind, int v) {
        NamesBack x = new NamesBack();
        x.place(kind, v, 0);
        int[] people = {0, 40, 70, 70, 0, 0};
        for (int p = 0; p < 6; p++) {
            x.place(0, 0, people[p]);
        }
        // 0 has a ROAD of its own to each it names, so that next() tells which one it was
        x.road(0, 2, 8);
        x.road(0, 3, 5);
        x.road(0, 4, 9);
        x.road(2, 1, 30);
        x.road(4, 6, 30);
        x.road(1, 5, 30);
        x.name(0, 2);
        x.name(0, 3);
        x.name(0, 4);
        return x;
    }

    private static void promise14NextByKind() {
        Check.due("14: PLACE: the least", star(0, 0).next(0, 6), 2);
        Check.due("14: NEAR: the nearest", star(1, 0).next(0, 6), 3);
        Check.due("14: GREAT: the greatest, of several the least", star(2, 0).next(0, 6), 3);
        Check.due("14: LAST: the last", star(3, 0).next(0, 5), 4);
        Check.due("14: ASKING: where one wants to", star(4, 0).next(0, 6), 4);
        NamesBack x = star(4, 0);
        Check.due("14: ASKING another", x.next(0, 5), 2);
        NamesBack near = star(1, 0);
        near.road(0, 2, 5);
        Check.due("14: NEAR: of several the least", near.next(0, 6), 2);
        near.road(0, 3, 0);
        near.road(0, 2, 0);
        Check.due("14: NEAR: those with a WAY", near.next(0, 6), 4);
        near.road(0, 4, 0);
        Check.due("14: NEAR: none has a WAY", near.next(0, 6), -5);
        NamesBack great = star(2, 0);
        Check.land(great, "great 31 p=2");
        Check.due("14: GREAT: SIZE, not PEOPLE", great.next(0, 6), 2);
        Check.land(great, "great 2 p=2;great 1 p=4");
        Check.due("14: GREAT: 4", great.next(0, 6), 4);
    }

    /** A post 2 of a KIND between 0, 1 and 3, 4, all a mile off; it names some, all without PEOPLE. */
    private static NamesBack middle(int kind, int... named) {
        NamesBack x = new NamesBack();
        for (int p = 0; p < 6; p++) {
            x.place(p == 2 ? kind : 0, 9, 0);
        }
        for (int p = 0; p < 5; p++) {
            x.road(2, p, 1);
        }
        for (int p : named) {
            x.name(2, p);
        }
        return x;
    }

    private static void promise14NextByEnds() {
        int[] kinds = {0, 1, 2};
        for (int kind : kinds) {
            Check.due("14: the first of all, KIND " + kind, middle(kind, 0, 1, 4).next(2, 5), 0);
            Check.due("14: of two, KIND " + kind, middle(kind, 3, 4).next(2, 5), 3);
        }
        int[] last = {3, 6};
        for (int kind : last) {
            Check.due("14: the only one, KIND " + kind, middle(kind, 0).next(2, 5), 0);
            Check.due("14: the last of two, KIND " + kind, middle(kind, 0, 3).next(2, 5), 3);
            NamesBack x = middle(kind, 0, 1, 4);
            x.name(2, 5);
            x.road(4, 5, 1);
            x.road(5, 1, 9);
            x.place(0, 0, 0);
            Check.due("14: the last PLACE, KIND " + kind, x.next(2, 6), 4);
            x.road(6, 3, 1);
            x.strike(2, 5);
            x.strike(2, 4);
            x.name(2, 6);
            x.road(2, 3, 0);
            x.road(2, 4, 0);
            x.road(2, 0, 0);
            x.road(2, 1, 0);
            x.road(2, 6, 3);
            Check.due("14: the seventh PLACE, KIND " + kind, x.next(2, 5), 6);
        }
        // CAPITAL: v 9 modulo 6 is 3
        Check.due("14: CAPITAL", middle(5, 0).next(2, 5), 3);
    }

    private static void promise14NextByDrowned() {
        Check.due("14: DROWNED, v 4", star(6, 4).next(0, 6), -5);
        Check.due("14: DROWNED, v 5, as LAST", star(6, 5).next(0, 6), 4);
        Check.due("14: DROWNED, v 4: named", star(6, 4).next(0, 3), 3);
        NamesBack x = star(6, 5);
        x.strike(0, 4);
        Check.due("14: DROWNED, v 5: a ROAD", x.next(0, 4), 4);
        Check.due("14: DROWNED, v 5: the last", x.next(0, 6), 3);
    }

    private static void promise14NextByCapital() {
        Check.due("14: CAPITAL 1, that is TOWARD 2", star(5, 1).next(0, 6), 2);
        Check.due("14: CAPITAL 9 modulo 7 is 2", star(5, 9).next(0, 6), 2);
        Check.due("14: CAPITAL 6", star(5, 6).next(0, 5), 4);
        Check.due("14: CAPITAL 7 is here: as GREAT", star(5, 7).next(0, 6), 3);
        Check.due("14: CAPITAL 0 is here: as GREAT", star(5, 0).next(0, 6), 3);
        NamesBack x = row(5, 0, 0, 0);
        Check.due("14: CAPITAL is here, nothing is named", x.next(0, 3), -5);
        NamesBack y = new NamesBack();
        y.place(5, 1, 0);
        y.place(0, 0, 0);
        y.place(0, 0, 0);
        y.road(0, 1, 4);
        Check.due("14: CAPITAL needs no names", y.next(0, 2), 1);
        y.road(0, 1, 0);
        Check.due("14: no WAY to the CAPITAL", y.next(0, 2), -5);
    }

    private static void promise14NextNowhere() {
        for (int kind = 0; kind < 4; kind++) {
            Check.due("14: nothing is named, KIND " + kind, row(kind, 0, 0).next(0, 2), -5);
        }
        Check.due("14: ASKING needs no names", row(4, 0, 0).next(0, 2), 1);
        NamesBack x = new NamesBack();
        x.place(0, 0, 0);
        x.place(0, 0, 0);
        x.place(0, 0, 9);
        x.place(0, 0, 0);
        x.road(0, 2, 5);
        x.name(0, 1);
        x.name(0, 2);
        Check.due("14: PLACE: the least has no WAY", x.next(0, 3), -5);
        x.strike(0, 1);
        Check.due("14: PLACE: the least has one", x.next(0, 3), 2);
        NamesBack great = new NamesBack();
        great.place(2, 0, 0);
        great.place(0, 0, 50);
        great.place(0, 0, 9);
        great.place(0, 0, 0);
        great.road(0, 2, 5);
        great.name(0, 1);
        great.name(0, 2);
        Check.due("14: GREAT: the greatest has no WAY", great.next(0, 3), -5);
        NamesBack asking = new NamesBack();
        asking.place(4, 0, 0);
        asking.place(0, 0, 0);
        Check.due("14: ASKING: no WAY", asking.next(0, 1), -5);
    }

    private static void promise15Gone() {
        NamesBack x = row(4, 4, 4, 4, 0);
        Check.due("15: how far", x.gone(0, 4, 0), 10);
        Check.due("15: how many ROADS", x.gone(0, 4, 1), 4);
        Check.due("15: LOST", x.gone(4, 0, 0), -5);
        Check.due("15: LOST, ROADS", x.gone(4, 0, 1), -5);
        Check.due("15: no from", x.gone(5, 0, 0), -1);
        Check.due("15: no to", x.gone(0, 5, 0), -1);
        Check.due("15: what", x.gone(0, 1, 2), -1);
        Check.due("15: what below", x.gone(0, 1, -1), -1);
        Check.due("15: NONE ahead of BAD", x.gone(0, 0, 2), -1);
        Check.due("15: one PLACE", x.gone(0, 0, 0), -2);
        // who is sent to and fro is LOST
        NamesBack fro = row(0, 0, 0, 0);
        fro.name(0, 1);
        fro.name(2, 1);
        Check.due("15: 1 sends back to 0", fro.gone(0, 3, 0), -5);
        Check.due("15: 2 has a ROAD to 3", fro.gone(2, 3, 0), 3);
        Check.land(x, "far 7 p=1|p=2");
        Check.due("15: LONG", x.gone(0, 4, 0), 24);
        Check.due("15: as many ROADS", x.gone(0, 4, 1), 4);
    }

    private static void promise16Lost() {
        NamesBack x = row(4, 4, 4, 4, 0);
        // only from 4: to 0, 1, 2
        Check.due("16: pairs", x.lost(1), 3);
        Check.due("16: no TRAVELLERS", x.lost(0), 0);
        x.traveller(4, 0, 20);
        x.traveller(0, 4, 7);
        x.traveller(4, 2, 99);
        x.traveller(4, 3, 50);
        Check.due("16: of TRAVELLERS", x.lost(0), 119);
        x.name(4, 0);
        Check.due("16: named 0, and so led to 1 and 2", x.lost(1), 0);
        Check.due("16: none of TRAVELLERS", x.lost(0), 0);
        Check.due("16: what", x.lost(2), -1);
        Check.due("16: what below", x.lost(-1), -1);
        NamesBack y = new NamesBack();
        y.place(0, 0, 0);
        Check.due("16: one PLACE has no pairs", y.lost(1), 0);
        y.place(0, 0, 0);
        Check.due("16: both ways", y.lost(1), 2);
    }

    private static void promise17Longest() {
        NamesBack x = row(4, 4, 4, 4);
        Check.due("17: how far", x.longest(0), 6);
        Check.due("17: which, the first of two", x.longest(1), 3);
        x.road(1, 2, 0);
        Check.due("17: of those that are not LOST", x.longest(0), 3);
        Check.due("17: 2 to 3", x.longest(1), 23);
        x.road(2, 3, 0);
        x.road(0, 1, 0);
        Check.due("17: none", x.longest(0), 0);
        Check.due("17: none, which", x.longest(1), -5);
        Check.due("17: what", x.longest(2), -1);
        Check.due("17: what below", x.longest(-1), -1);
        NamesBack mile = row(0, 0);
        Check.due("17: a mile", mile.longest(0), 1);
        Check.due("17: the mile from 0 to 1", mile.longest(1), 1);
        // 2 asks, 0 does not: the JOURNEY from 2 to 0 is the longest alone
        NamesBack back = row(0, 0, 4);
        back.road(1, 2, 5);
        Check.due("17: from 2 to 0", back.longest(0), 6);
        Check.due("17: 2 to 0", back.longest(1), 20);
        // a JOURNEY goes where it is sent: 1 sends who wants to 2 TOWARD 3 by 0, and 0 has a ROAD to 2
        NamesBack y = row(1, 0, 0);
        y.road(1, 2, 0);
        y.road(0, 2, 9);
        y.place(0, 0, 0);
        y.road(3, 2, 1);
        y.name(3, 1);
        Check.due("17: as far as 3 to 0", y.longest(0), 10);
        Check.due("17: 1 to 2 is ahead of 3 to 0", y.longest(1), 12);
    }
}
