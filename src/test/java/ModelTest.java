import java.util.Random;

/** Runs of calls told by a fixed row of numbers, on NamesBack and on the Model: each answer must be the same. */
final class ModelTest {
    private static final String[] TESTS = {"p", "k", "v", "c", "n", "r"};
    private final Random dice;
    private final NamesBack x = new NamesBack();
    private final Model m = new Model();
    private final String run;

    private ModelTest(long seed) {
        dice = new Random(seed);
        run = "run " + seed + ": ";
    }

    public static void main(String[] args) {
        int runs = args.length > 0 ? Integer.parseInt(args[0]) : 1500;
        for (int seed = 0; seed < runs; seed++) {
            new ModelTest(seed).play();
        }
        Check.end("ModelTest");
    }

    private int n(int bound) {
        return dice.nextInt(bound);
    }

    /** Mostly a PLACE that is there, seldom one that is not. */
    private int p() {
        int places = m.now.size();
        return places == 0 || n(25) == 0 ? n(10) - 2 : n(places);
    }

    /** 0 or 1, seldom another. */
    private int part() {
        return n(15) == 0 ? n(5) - 2 : n(2);
    }

    private String expression(int deep) {
        int way = n(deep > 0 ? 8 : 4);
        if (way < 4) {
            return TESTS[n(6)] + "<=>".charAt(n(3)) + (n(3) > 0 ? n(7) : n(100));
        }
        if (way == 4) {
            return "!" + (n(2) == 0 ? "(" + expression(deep - 1) + ")" : "p=" + n(7));
        }
        String one = expression(deep - 1);
        return way == 5 ? "(" + one + ")" : one + "&|".charAt(n(2)) + expression(deep - 1);
    }

    private String landText() {
        StringBuilder text = new StringBuilder();
        for (int k = n(n(4) == 0 ? 12 : 4); k >= 0; k--) {
            int sort = n(7);
            text.append(sort == 0 ? "arms " + n(n(5) == 0 ? 100 : 7)
                    : (sort < 4 ? "great " : "far ") + n(60) + " " + expression(n(5)));
            text.append(k > 0 ? ";" : "");
        }
        if (n(4) == 0 && text.length() > 0) {
            int at = n(text.length());
            switch (n(4)) {
                case 0: text.deleteCharAt(at); break;
                case 1: text.insert(at, "gfa !(&|)=<>;019pkq".charAt(n(19))); break;
                case 2: text.setCharAt(at, "gfa !(&|)=<>;019pkq".charAt(n(19))); break;
                default: text.setLength(at);
            }
        }
        return text.toString();
    }

    private void due(String call, long got, long want) {
        Check.due(run + call, got, want);
    }

    private void play() {
        int calls = 0;
        int places = n(10) == 0 ? n(3) : 3 + n(5);
        for (int k = 0; k < places; k++) {
            place();
        }
        for (int k = 0; k < places * 2; k++) {
            road();
            name();
        }
        calls = places * 5;
        while (calls < 512) {
            calls += one();
        }
    }

    private void place() {
        int k = n(15) == 0 ? n(12) - 3 : n(7);
        int v = n(15) == 0 ? n(14) - 2 : n(10);
        int c = n(15) == 0 ? n(120) - 10 : n(100);
        due("place " + k + " " + v + " " + c, x.place(k, v, c), m.place(k, v, c));
    }

    private void road() {
        int a = p();
        int b = p();
        int miles = n(12) == 0 ? n(110) - 5 : n(6) == 0 ? 0 : 1 + n(n(2) == 0 ? 10 : 99);
        due("road " + a + " " + b + " " + miles, x.road(a, b, miles), m.road(a, b, miles));
    }

    private void name() {
        int a = p();
        int b = p();
        due("name " + a + " " + b, x.name(a, b), m.name(a, b));
    }

    /** One call, or a few; answers how many. */
    private int one() {
        int which = n(42);
        if (which < 12) {
            return change(which);
        }
        if (which < 26) {
            askJourneys(which);
        } else {
            askRest(which);
        }
        return 1;
    }

    private int change(int which) {
        int a = p();
        int b = p();
        switch (which) {
            case 0: place(); return 1;
            case 1: case 2: road(); return 1;
            case 3: case 4: name(); return 1;
            case 5: due("strike " + a + " " + b, x.strike(a, b), m.strike(a, b)); return 1;
            case 6:
                int many = n(10) == 0 ? n(200) - 50 : 1 + n(99);
                due("traveller " + a + " " + b + " " + many, x.traveller(a, b, many), m.traveller(a, b, many));
                return 1;
            case 7: return n(3) == 0 ? land() : 0;
            case 8:
                int row = m.now.book.size();
                // a row that goes on well, mostly, so that looked() has something to see
                int then = row == 0 || n(5) == 0 ? n(20) == 0 ? -1 : a : m.next(m.now.book.get(row - 1), b);
                due("book " + then, x.book(then), m.book(then));
                due("looked " + b, x.looked(b), m.looked(b));
                return 2;
            case 9:
                if (n(4) != 0) return 0;
                due("image", x.image(), m.image());
                return 1;
            case 10:
                if (n(4) != 0) return 0;
                due("undo", x.undo(), m.undo());
                return 1;
            default: return n(10) == 0 ? judged() : 0;
        }
    }

    private int land() {
        String text = landText();
        for (char c : text.toCharArray()) {
            due("feed " + (int) c, x.feed(c), m.feed(c));
        }
        if (n(10) == 0) {
            int c = n(3) == 0 ? 128 + n(5) : -1;
            due("feed " + c, x.feed(c), m.feed(c));
        }
        due("land " + text, x.land(), m.land());
        return text.length() + 2;
    }

    /** A row of ints that tells SIZES well, or nearly. */
    private int judged() {
        int t = n(6);
        int length = n(12);
        int i = n(4) - 1;
        due("tape", x.tape(t, 2, length), m.tape(t, 2, length));
        for (int k = 0; k < m.now.size(); k++) {
            int v = m.of(k, 3) + (n(15) == 0 ? 1 : 0);
            due("item", x.item(t, i + k, v), m.item(t, i + k, v));
        }
        due("judge " + t + " " + i, x.judge(t, i), m.judge(t, i));
        return 2 + m.now.size();
    }

    private void askJourneys(int which) {
        int a = p();
        int b = p();
        int w = part();
        String ab = " " + a + " " + b;
        switch (which) {
            case 12: due("far" + ab, x.far(a, b), m.far(a, b)); break;
            case 13: due("way" + ab, x.way(a, b), m.way(a, b)); break;
            case 14: due("toward" + ab, x.toward(a, b), m.toward(a, b)); break;
            case 15: due("next" + ab, x.next(a, b), m.next(a, b)); break;
            case 16: due("gone" + ab + " " + w, x.gone(a, b, w), m.gone(a, b, w)); break;
            case 17: due("lost " + w, x.lost(w), m.lost(w)); break;
            case 18: due("longest " + w, x.longest(w), m.longest(w)); break;
            case 19:
                // the Model is slow here
                if (n(3) == 0) due("put " + w, x.put(w), m.put(w));
                break;
            case 20: due("worst " + w, x.worst(w), m.worst(w)); break;
            case 21: due("turned" + ab, x.turned(a, b), m.turned(a, b)); break;
            case 22: due("chain" + ab, x.chain(a, b), m.chain(a, b)); break;
            case 23:
                int n = n(9) - 1;
                due("allIn " + n, x.allIn(n), m.allIn(n));
                break;
            case 24: due("capitals", x.capitals(), m.capitals()); break;
            default:
                int miles = n(10) == 0 ? n(120) - 10 : 1 + n(99);
                if (n(3) == 0) due("newRoad " + miles + " " + w, x.newRoad(miles, w), m.newRoad(miles, w));
        }
    }

    private void askRest(int which) {
        int a = p();
        int b = p();
        int w = part();
        int t = n(20) == 0 ? n(9) - 2 : n(6);
        int i = n(20) == 0 ? dice.nextInt() : n(14) - 2;
        switch (which) {
            case 26: due("gets " + a, x.gets(a), m.gets(a)); break;
            case 27: case 28:
                int steps = n(9) - 1;
                due("odds " + a + " " + b + " " + steps + " " + w, x.odds(a, b, steps, w), m.odds(a, b, steps, w));
                break;
            case 29: due("mean " + w, x.mean(w), m.mean(w)); break;
            case 30: due("judge " + t + " " + i, x.judge(t, i), m.judge(t, i)); break;
            case 31: case 32: case 33:
                int act = n(20) == 0 ? n(7) - 2 : n(3);
                int with = n(2) == 0 ? dice.nextInt() : n(20) - 5;
                due("act " + a + " " + act + " " + with, x.act(a, act, with), m.act(a, act, with));
                break;
            case 34: due("trace " + i, x.trace(i), m.trace(i)); break;
            case 35: due("taken " + a + " " + i, x.taken(a, i), m.taken(a, i)); break;
            case 36: due("count " + i, x.count(i), m.count(i)); break;
            case 37: due("of " + a + " " + (t + 1), x.of(a, t), m.of(a, t)); break;
            case 38:
                int sort = n(7) - 1;
                int length = n(10) == 0 ? n(70) - 5 : n(15);
                due("tape " + t + " " + sort + " " + length, x.tape(t, sort, length), m.tape(t, sort, length));
                break;
            case 39:
                long v = n(2) == 0 ? dice.nextLong() : n(3);
                due("item " + t + " " + i + " " + v, x.item(t, i, v), m.item(t, i, v));
                break;
            case 40: due("read " + t + " " + i, x.read(t, i), m.read(t, i)); break;
            default:
                int o = n(3) == 0 ? t : n(7);
                int j = n(12) - 1;
                int n = n(20) == 0 ? dice.nextInt() : n(9) - 1;
                String all = t + " " + i + " " + o + " " + j + " " + n;
                due("shift " + all, x.shift(t, i, o, j, n), m.shift(t, i, o, j, n));
                due("told " + w, x.told(w), m.told(w));
        }
    }
}
