/** Every call with numbers from the edges of what a call takes, and far beyond: it answers as the Model. */
final class EdgesTest {
    private static final int[] FEW = {Integer.MIN_VALUE, -2, -1, 0, 1, 5, 6, 7, Integer.MAX_VALUE};
    private static final int[] MANY = {Integer.MIN_VALUE, Integer.MIN_VALUE + 1, -100, -14, -6, -5, -2, -1, 0, 1, 2, 3,
        4, 5, 6, 7, 8, 9, 10, 11, 12, 13, 20, 59, 60, 61, 98, 99, 100, 101, 127, 128, 999, Integer.MAX_VALUE - 1,
        Integer.MAX_VALUE};
    private static final String[] LANDS = {"", "arms 6;far 3 n>1", "great 9 r>1|c>4;far 40 k=0&v<9"};

    private NamesBack x;
    private Model m;
    private int calls;
    private int house;

    private EdgesTest() {
    }

    public static void main(String[] args) {
        new EdgesTest().all();
        Check.end("EdgesTest");
    }

    /** An object of its own for every 400 calls: none, two or seven PLACES, each KIND once. */
    private void build() {
        x = new NamesBack();
        m = new Model();
        calls = 0;
        int places = new int[] {0, 2, 7}[house % 3];
        for (int p = 0; p < places; p++) {
            x.place(p, 9 - p, 14 * p);
            m.place(p, 9 - p, 14 * p);
        }
        for (int p = 0; p < places; p++) {
            for (int q = p + 1; q < places; q += 1 + house % 2) {
                x.road(p, q, p * q + 1);
                m.road(p, q, p * q + 1);
                x.name(p, (q + house) % 7);
                m.name(p, (q + house) % 7);
            }
            x.traveller(p, places - 1 - p, 11 * p + 1);
            m.traveller(p, places - 1 - p, 11 * p + 1);
            x.book(p);
            m.book(p);
        }
        for (char c : LANDS[house / 3 % 3].toCharArray()) {
            x.feed(c);
            m.feed(c);
        }
        x.land();
        m.land();
        for (int t = 0; t < 5; t++) {
            x.tape(t, t, 9 * t);
            m.tape(t, t, 9 * t);
        }
        house++;
    }

    private void due(String call, long got, long want) {
        Check.due("house " + (house - 1) + ": " + call, got, want);
        calls++;
        if (calls > 400) {
            build();
        }
    }

    private void all() {
        build();
        for (int a : MANY) {
            one(a);
            for (int b : MANY) {
                two(a, b);
                for (int c : MANY) {
                    three(a, b, c);
                }
            }
        }
        for (int a : FEW) {
            for (int b : FEW) {
                for (int c : FEW) {
                    for (int d : FEW) {
                        due("odds " + a + " " + b + " " + c + " " + d, x.odds(a, b, c, d), m.odds(a, b, c, d));
                        for (int e : FEW) {
                            String abcde = a + " " + b + " " + c + " " + d + " " + e;
                            due("shift " + abcde, x.shift(a, b, c, d, e), m.shift(a, b, c, d, e));
                        }
                    }
                }
            }
        }
    }

    private void one(int a) {
        for (int k = 0; k < 9; k++) {
            due("feed " + a, x.feed(a), m.feed(a));
            due("told " + a, x.told(a), m.told(a));
            due("lost " + a, x.lost(a), m.lost(a));
            due("longest " + a, x.longest(a), m.longest(a));
            due("put " + a, x.put(a), m.put(a));
            due("worst " + a, x.worst(a), m.worst(a));
            due("allIn " + a, x.allIn(a), m.allIn(a));
            due("gets " + a, x.gets(a), m.gets(a));
            due("mean " + a, x.mean(a), m.mean(a));
            due("book " + a, x.book(a), m.book(a));
            due("looked " + a, x.looked(a), m.looked(a));
            due("trace " + a, x.trace(a), m.trace(a));
            due("count " + a, x.count(a), m.count(a));
            due("capitals", x.capitals(), m.capitals());
            due("land", x.land(), m.land());
            due("image", x.image(), m.image());
            due("undo", x.undo(), m.undo());
            build();
        }
    }

    private void two(int a, int b) {
        String ab = a + " " + b;
        due("of " + ab, x.of(a, b), m.of(a, b));
        due("far " + ab, x.far(a, b), m.far(a, b));
        due("name " + ab, x.name(a, b), m.name(a, b));
        due("turned " + ab, x.turned(a, b), m.turned(a, b));
        due("strike " + ab, x.strike(a, b), m.strike(a, b));
        due("way " + ab, x.way(a, b), m.way(a, b));
        due("toward " + ab, x.toward(a, b), m.toward(a, b));
        due("next " + ab, x.next(a, b), m.next(a, b));
        due("chain " + ab, x.chain(a, b), m.chain(a, b));
        due("newRoad " + ab, x.newRoad(a, b), m.newRoad(a, b));
        due("judge " + ab, x.judge(a, b), m.judge(a, b));
        due("taken " + ab, x.taken(a, b), m.taken(a, b));
        due("read " + ab, x.read(a, b), m.read(a, b));
    }

    private void three(int a, int b, int c) {
        String abc = a + " " + b + " " + c;
        due("place " + abc, x.place(a, b, c), m.place(a, b, c));
        due("road " + abc, x.road(a, b, c), m.road(a, b, c));
        due("traveller " + abc, x.traveller(a, b, c), m.traveller(a, b, c));
        due("gone " + abc, x.gone(a, b, c), m.gone(a, b, c));
        due("act " + abc, x.act(a, b, c), m.act(a, b, c));
        due("tape " + abc, x.tape(a, b, c), m.tape(a, b, c));
        due("item " + abc, x.item(a, b, c * 5000000000L), m.item(a, b, c * 5000000000L));
    }
}
