/** A full house: seven PLACES, eight TRAVELLERS, twelve rows. What is asked changes nothing. */
final class SevenTest {
    private SevenTest() {
    }

    public static void main(String[] args) {
        sevenAsking();
        askingChangesNothing();
        Check.end("SevenTest");
    }

    /** Seven that ask, in a row, at the miles 0, 1, 3, 6, 10, 15, 21. */
    private static NamesBack seven() {
        return JourneysTest.row(4, 4, 4, 4, 4, 4, 4);
    }

    private static void sevenAsking() {
        NamesBack x = seven();
        Check.due("told", x.told(1), 0);
        Check.due("lost", x.lost(1), 0);
        Check.due("gone", x.gone(6, 0, 0), 21);
        Check.due("gone, ROADS", x.gone(6, 0, 1), 6);
        Check.due("longest", x.longest(0), 21);
        Check.due("longest, which", x.longest(1), 6);
        // of 42 pairs: 6 * 21 + 4 * 15 + 2 * 10 - 2 * 3 - 4 * 1, both ways
        Check.due("mean, above", x.mean(0), 28);
        Check.due("mean, below", x.mean(1), 3);
        Check.due("put", x.put(0), 1);
        Check.due("put, LOST", x.put(1), 0);
        Check.due("worst", x.worst(0), -5);
        Check.due("capitals", x.capitals(), 127);
        Check.due("allIn", x.allIn(6), 0);
        for (int p = 1; p < 7; p++) {
            x.name(p, p - 1);
        }
        Check.due("told", x.told(1), 6);
        Check.due("worst", x.worst(0), 1);
        Check.due("worst, LOST", x.worst(1), 0);
        Check.due("allIn", x.allIn(6), 1);
        Check.due("allIn 5", x.allIn(5), 0);
        Check.due("capitals", x.capitals(), 62);
        Check.due("chain", x.chain(0, 6), 6);
        // at 6 TOWARD 0 for 5, by 5 as well
        Check.due("turned, behind the last", x.turned(6, 5), 0);
        // at 5 TOWARD 0 for 6: who wants to 6 is sent back from 5, and again
        Check.due("turned", x.turned(5, 6), 6);
        Check.due("odds, to and fro", x.odds(6, 6, 2, 1), 2);
        Check.due("odds, to the end", x.odds(0, 6, 6, 1), 32);
        newRoads(x);
        for (int p = 0; p < 7; p++) {
            for (int q = p + 1; q < 7; q++) {
                x.road(p, q, 99);
            }
        }
        Check.due("newRoad, none is left", x.newRoad(1, 0), -5);
        Check.due("a ROAD to each", x.of(6, 5), 63);
    }

    /** In a row the WAY with a new ROAD is the old one or leads by that ROAD, the one way or the other. */
    private static void newRoads(NamesBack x) {
        int[] at = {0, 1, 3, 6, 10, 15, 21};
        for (int n = 1; n < 100; n += 7) {
            int pair = -5;
            int most = 0;
            for (int p = 0; p < 49; p++) {
                int a = p / 7;
                int b = p % 7;
                int less = 0;
                for (int q = 0; q < 49; q++) {
                    int old = Math.abs(at[q / 7] - at[q % 7]);
                    int by = Math.abs(at[q / 7] - at[a]) + n + Math.abs(at[b] - at[q % 7]);
                    less += 2 * Math.max(0, old - by);
                }
                if (b > a + 1 && (pair < 0 || less > most)) {
                    pair = 10 * a + b;
                    most = less;
                }
            }
            Check.due("newRoad of " + n, x.newRoad(n, 0), pair);
            Check.due("newRoad of " + n + ", less", x.newRoad(n, 1), most);
        }
    }

    private static long asked(NamesBack x) {
        long sum = 0;
        for (int p = 0; p < 7; p++) {
            sum = sum * 31 + x.of(p, 3);
            sum = sum * 31 + x.of(p, 4);
            sum = sum * 31 + x.of(p, 5);
            sum = sum * 31 + x.gets(p);
            sum = sum * 31 + x.looked(p);
            sum = sum * 31 + x.next(p, (p + 3) % 7);
            sum = sum * 31 + x.odds(p, 0, 5, 0);
        }
        for (int what = 0; what < 2; what++) {
            sum = sum * 31 + x.put(what);
            sum = sum * 31 + x.worst(what);
            sum = sum * 31 + x.newRoad(7, what);
            sum = sum * 31 + x.lost(what);
            sum = sum * 31 + x.longest(what);
            sum = sum * 31 + x.mean(what);
            sum = sum * 31 + x.told(what);
        }
        sum = sum * 31 + x.turned(0, 1);
        return sum;
    }

    private static void askingChangesNothing() {
        NamesBack x = new NamesBack();
        for (int p = 0; p < 7; p++) {
            x.place(p, 9 - p, 12 * p);
            x.road(p - 1, p, 9 + p);
            x.name(p, p - 1);
        }
        for (int t = 0; t < 8; t++) {
            x.traveller(t % 7, (t + 3) % 7, 9 + t);
        }
        for (int row = 0; row < 12; row++) {
            x.book(row % 7);
        }
        Check.land(x, "far 9 n>1;far 9 r>2;great 3 n=2;arms 5");
        Check.holds("some are LOST", x.lost(0) > 0);
        long first = asked(x);
        Check.due("asked again", asked(x), first);
        x.image();
        x.strike(0, 1);
        x.road(2, 3, 0);
        Check.holds("it is otherwise then", asked(x) != first);
        x.undo();
        Check.due("asked behind undo", asked(x), first);
    }
}
