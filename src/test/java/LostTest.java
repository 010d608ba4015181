/** Promises 25 to 29: who gets the lost, odds, means, books. */
final class LostTest {
    private LostTest() {
    }

    public static void main(String[] args) {
        promise25Gets();
        promise26Odds();
        promise26OddsStay();
        promise27Mean();
        promise28Book();
        promise29Looked();
        Check.end("LostTest");
    }

    private static void promise25Gets() {
        NamesBack x = JourneysTest.row(4, 4, 0, 0, 0);
        // 0 and 1 ask, 2 names nothing and has ROADS to 1, 3
        x.traveller(0, 4, 10);
        x.traveller(1, 4, 5);
        x.traveller(0, 3, 70);
        x.traveller(4, 0, 3);
        Check.due("25: those from 0, 1 stand at 2", x.gets(2), 15);
        Check.due("25: one never left 4", x.gets(4), 3);
        Check.due("25: who is there is not LOST", x.gets(3), 0);
        Check.due("25: no place", x.gets(5), -1);
        Check.due("25: below", x.gets(-1), -1);
        // sent to and fro by 20 ROADS, one stands where one began
        NamesBack y = JourneysTest.row(0, 0, 0, 0);
        y.name(0, 1);
        y.traveller(0, 3, 8);
        y.traveller(1, 3, 30);
        Check.due("25: at 0 behind 20 ROADS", y.gets(0), 8);
        Check.due("25: at 1 behind 20 ROADS", y.gets(1), 30);
    }

    private static void odds(NamesBack x, int from, int to, int n, long above, long below) {
        String call = "26: odds " + from + " " + to + " " + n;
        Check.due(call + ", above", x.odds(from, to, n, 0), above);
        Check.due(call + ", below", x.odds(from, to, n, 1), below);
    }

    private static void promise26Odds() {
        NamesBack x = JourneysTest.row(0, 0, 0, 0);
        x.road(1, 3, 9);
        x.name(1, 0);
        x.name(1, 2);
        x.name(2, 3);
        // 1 to 0 or 2, 0 to 1, 2 to 1 or 3, 3 to 2
        odds(x, 1, 1, 0, 1, 1);
        odds(x, 1, 0, 0, 0, 1);
        odds(x, 1, 0, 1, 1, 2);
        odds(x, 1, 2, 1, 1, 2);
        odds(x, 1, 1, 2, 3, 4);
        odds(x, 1, 3, 2, 1, 4);
        odds(x, 1, 0, 3, 3, 8);
        odds(x, 1, 2, 3, 5, 8);
        odds(x, 1, 1, 6, 43, 64);
        odds(x, 0, 0, 6, 11, 32);
        Check.due("26: no from", x.odds(4, 0, 1, 0), NamesBack.NO);
        Check.due("26: no to", x.odds(0, -1, 1, 0), NamesBack.NO);
        Check.due("26: n below", x.odds(0, 1, -1, 0), NamesBack.NO);
        Check.due("26: n above", x.odds(0, 1, 7, 0), NamesBack.NO);
        Check.due("26: part", x.odds(0, 1, 1, 2), NamesBack.NO);
        Check.due("26: part below", x.odds(0, 1, 1, -1), NamesBack.NO);
    }

    private static void promise26OddsStay() {
        // 0 names 1, 2, 3; there is no WAY to 3, and 1 names none else: 1 stays never, 4 stays
        NamesBack x = new NamesBack();
        for (int p = 0; p < 5; p++) {
            x.place(0, 0, 0);
        }
        x.road(0, 1, 1);
        x.road(1, 2, 1);
        x.name(0, 1);
        x.name(0, 2);
        x.name(0, 3);
        // TOWARD 1 and TOWARD 2 both lead to 1
        odds(x, 0, 1, 1, 2, 3);
        odds(x, 0, 0, 1, 1, 3);
        odds(x, 0, 2, 1, 0, 1);
        odds(x, 4, 4, 6, 1, 1);
        odds(x, 3, 3, 5, 1, 1);
        // 1 stays as well when it names 0 no more
        x.strike(0, 1);
        odds(x, 0, 1, 1, 1, 2);
        odds(x, 0, 1, 2, 3, 4);
        odds(x, 0, 1, 6, 63, 64);
        odds(x, 2, 1, 1, 1, 1);
        x.name(0, 1);
        // 0 to 0: stays twice, or there and back: 1/9 + 2/3
        odds(x, 0, 0, 2, 7, 9);
    }

    private static void promise27Mean() {
        NamesBack x = JourneysTest.row(0, 0, 0);
        // 0-1 1, 1-2 2, both ways; 0, 2 LOST
        Check.due("27: 6 by 4, above", x.mean(0), 3);
        Check.due("27: 6 by 4, below", x.mean(1), 2);
        x.name(0, 2);
        Check.due("27: 12 by 6, above", x.mean(0), 2);
        Check.due("27: 12 by 6, below", x.mean(1), 1);
        Check.due("27: part", x.mean(2), NamesBack.NO);
        Check.due("27: part below", x.mean(-1), NamesBack.NO);
        x.road(0, 1, 0);
        x.road(1, 2, 0);
        Check.due("27: none, above", x.mean(0), NamesBack.NO);
        Check.due("27: none, below", x.mean(1), NamesBack.NO);
        Check.due("27: no PLACES", new NamesBack().mean(0), NamesBack.NO);
    }

    private static void promise28Book() {
        NamesBack x = JourneysTest.row(0, 0);
        Check.due("28: no place", x.book(2), -1);
        Check.due("28: below -1", x.book(-2), -1);
        for (int k = 1; k <= 12; k++) {
            Check.due("28: how many", x.book(k % 2), k);
        }
        Check.due("28: full", x.book(0), -4);
        Check.due("28: NONE ahead of FULL", x.book(2), -1);
        Check.due("28: twelve", x.count(3), 12);
        Check.due("28: empty", x.book(-1), 0);
        Check.due("28: none", x.count(3), 0);
        Check.due("28: one", x.book(1), 1);
    }

    private static void promise29Looked() {
        NamesBack x = JourneysTest.row(4, 4, 4, 4);
        Check.due("29: an empty BOOK", x.looked(3), -5);
        x.book(3);
        Check.due("29: one row", x.looked(0), -5);
        Check.due("29: one row, there", x.looked(3), -5);
        x.book(2);
        x.book(1);
        Check.due("29: all goes so", x.looked(0), -5);
        Check.due("29: who is at 1 goes nowhere", x.looked(1), -5);
        Check.due("29: who wants to 3 is there", x.looked(3), 1);
        Check.due("29: who wants to 2 is there behind a row", x.looked(2), 2);
        x.book(3);
        Check.due("29: not from 1 to 3", x.looked(0), 3);
        x.book(-1);
        x.book(0);
        x.book(1);
        x.book(2);
        x.book(2);
        Check.due("29: who is there goes nowhere", x.looked(2), 3);
        Check.due("29: no to", x.looked(4), -1);
        Check.due("29: below", x.looked(-1), -1);
        // who goes nowhere
        NamesBack y = JourneysTest.row(0, 0, 0);
        y.book(0);
        y.book(1);
        Check.due("29: LOST at once", y.looked(2), 1);
        Check.due("29: by a ROAD", y.looked(1), -5);
    }
}
