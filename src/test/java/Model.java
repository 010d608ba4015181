import java.lang.reflect.Array;
import java.math.BigInteger;
import java.util.ArrayList;
import java.util.Arrays;
import java.util.List;
import java.util.regex.Matcher;
import java.util.regex.Pattern;

/**
 * The document once more, written in another way (paths tried one by one, a regular expression for LANDS, real classes
 * for ACTS, real arrays for TAPES), so that a slip in NamesBack shows as an answer that differs.
 */
final class Model {
    static final long NO = Long.MIN_VALUE;
    private static final int[] UNDER = {-1, 0, 0, 0, 1, 2, 3};
    private static final Pattern LAND = landPattern();

    /** What the image holds. */
    static final class State {
        List<int[]> places = new ArrayList<>();
        int[][] miles = new int[7][7];
        boolean[][] named = new boolean[7][7];
        List<int[]> travellers = new ArrayList<>();
        List<Integer> book = new ArrayList<>();
        String land = "";

        State copy() {
            State s = new State();
            s.places.addAll(places);
            for (int p = 0; p < 7; p++) {
                s.miles[p] = miles[p].clone();
                s.named[p] = named[p].clone();
            }
            s.travellers.addAll(travellers);
            s.book.addAll(book);
            s.land = land;
            return s;
        }

        int size() {
            return places.size();
        }

        int names(int p) {
            int n = 0;
            for (boolean b : named[p]) {
                n += b ? 1 : 0;
            }
            return n;
        }

        void turn(int a, int b, boolean to) {
            named[a][b] = to;
            named[b][a] = to;
        }
    }

    State now = new State();
    State image = null;
    StringBuilder text = new StringBuilder();
    int lands = 0;
    List<Integer> trace = new ArrayList<>();
    Object[] tapes = new Object[6];

    // ---- lands

    private static Pattern landPattern() {
        String test = "[pkvcnr][<=>][0-9][0-9]?";
        String f = test;
        for (int k = 0; k < 4; k++) {
            f = "(?:" + test + "|!" + f + "|\\(" + either(f) + "\\))";
        }
        String clause = "(?:(?:great|far) [0-9][0-9]? " + either(f) + "|arms [0-9][0-9]?)";
        return Pattern.compile(clause + "(?:;" + clause + "){0,9}");
    }

    private static String either(String f) {
        String t = f + "(?:&" + f + ")*";
        return t + "(?:\\|" + t + ")*";
    }

    /** The first byte with which no LAND begins so, or -1. */
    static int fault(String s) {
        if (LAND.matcher(s).matches()) {
            return -1;
        }
        for (int n = 1; n <= s.length(); n++) {
            Matcher m = LAND.matcher(s.substring(0, n));
            if (!m.matches() && !m.hitEnd()) {
                return n - 1;
            }
        }
        return s.length();
    }

    /** Splits at a sign outside of brackets. */
    private static List<String> parts(String s, char sign) {
        List<String> parts = new ArrayList<>();
        int open = 0;
        int start = 0;
        for (int k = 0; k < s.length(); k++) {
            char c = s.charAt(k);
            open += c == '(' ? 1 : c == ')' ? -1 : 0;
            if (c == sign && open == 0) {
                parts.add(s.substring(start, k));
                start = k + 1;
            }
        }
        parts.add(s.substring(start));
        return parts;
    }

    private static boolean isTrue(State s, String e, int p) {
        List<String> either = parts(e, '|');
        if (either.size() > 1) {
            return either.stream().anyMatch(t -> isTrue(s, t, p));
        }
        List<String> both = parts(e, '&');
        if (both.size() > 1) {
            return both.stream().allMatch(f -> isTrue(s, f, p));
        }
        if (e.startsWith("!")) {
            return !isTrue(s, e.substring(1), p);
        }
        if (e.startsWith("(")) {
            return isTrue(s, e.substring(1, e.length() - 1), p);
        }
        int roads = (int) Arrays.stream(s.miles[p]).filter(m -> m > 0).count();
        int[] place = s.places.get(p);
        int value;
        switch (e.charAt(0)) {
            case 'p': value = p; break;
            case 'k': value = place[0]; break;
            case 'v': value = place[1]; break;
            case 'c': value = place[2] / 10; break;
            case 'n': value = s.names(p); break;
            default: value = roads;
        }
        int number = Integer.parseInt(e.substring(2));
        return e.charAt(1) == '<' ? value < number : e.charAt(1) == '=' ? value == number : value > number;
    }

    private static int bonus(State s, String word, int p) {
        int sum = 0;
        for (String clause : s.land.split(";")) {
            String[] w = clause.split(" ");
            if (w[0].equals(word) && isTrue(s, w[2], p)) {
                sum += Integer.parseInt(w[1]);
            }
        }
        return sum;
    }

    static int arms(State s) {
        int arms = 4;
        for (String clause : s.land.split(";")) {
            if (clause.startsWith("arms ")) {
                arms = Integer.parseInt(clause.substring(5));
            }
        }
        return arms;
    }

    static int sizeOf(State s, int p) {
        return s.places.get(p)[2] + bonus(s, "great", p);
    }

    static int longOf(State s, int a, int b) {
        return s.miles[a][b] == 0 ? 0 : s.miles[a][b] + bonus(s, "far", Math.min(a, b));
    }

    // ---- ways and journeys; the tables are made anew for every state that is asked

    /** All that is asked of one state. */
    static final class Asked {
        final State s;
        final int n;
        final int[][] longs = new int[7][7];
        final int[][] way = new int[7][7];
        final int[][] toward = new int[7][7];
        int falseAt = -1;
        int falseNamed = -1;

        Asked(State s) {
            this.s = s;
            n = s.size();
            for (int a = 0; a < n; a++) {
                for (int b = 0; b < n; b++) {
                    longs[a][b] = longOf(s, a, b);
                }
            }
            for (int a = 0; a < n; a++) {
                Arrays.fill(way[a], -5);
                Arrays.fill(toward[a], -5);
                way[a][a] = 0;
                tryPaths(a, a, -1, 0, 1 << a);
            }
        }

        /** Every path without a PLACE twice. */
        private void tryPaths(int from, int at, int first, int sum, int been) {
            for (int p = 0; p < n; p++) {
                if (longs[at][p] == 0 || (been >> p & 1) == 1) {
                    continue;
                }
                int there = sum + longs[at][p];
                int head = first < 0 ? p : first;
                if (way[from][p] == -5 || there < way[from][p]) {
                    way[from][p] = there;
                    toward[from][p] = head;
                } else if (there == way[from][p]) {
                    toward[from][p] = Math.min(toward[from][p], head);
                }
                tryPaths(from, p, head, there, been | 1 << p);
            }
        }

        private int best(int at, java.util.function.IntUnaryOperator rank, boolean needsWay) {
            int best = -1;
            for (int p = 0; p < n; p++) {
                if (s.named[at][p] && !(needsWay && way[at][p] < 0)
                        && (best < 0 || rank.applyAsInt(p) > rank.applyAsInt(best))) {
                    best = p;
                }
            }
            return best;
        }

        int aim(int at, int to) {
            if (s.named[at][to] || s.miles[at][to] > 0) {
                return to;
            }
            int[] place = s.places.get(at);
            int kind = place[0];
            if (kind == 6) {
                if (place[1] <= 4) {
                    return -1;
                }
                kind = 3;
            }
            if (kind == 5) {
                int c = place[1] % n;
                if (c != at) {
                    return c;
                }
                kind = 2;
            }
            switch (kind) {
                case 0: return best(at, p -> -p, false);
                case 1: return best(at, p -> -way[at][p], true);
                case 2: return best(at, p -> sizeOf(s, p), false);
                case 3: return best(at, p -> p, false);
                default: return to;
            }
        }

        int next(int at, int to) {
            if (at == to) {
                return -5;
            }
            int aim = aim(at, to);
            if (at == falseAt && aim == falseNamed) {
                aim = (falseNamed + 1) % n;
                if (aim == at) {
                    aim = (aim + 1) % n;
                }
            }
            return aim < 0 ? -5 : toward[at][aim];
        }

        /** Where one stands at last, by how many ROADS, how far. */
        int[] journey(int from, int to) {
            int[] j = {from, 0, 0};
            while (j[0] != to && j[1] < 20) {
                int p = next(j[0], to);
                if (p < 0) {
                    break;
                }
                j[2] += longs[j[0]][p];
                j[1]++;
                j[0] = p;
            }
            return j;
        }

        boolean isLost(int from, int to) {
            return journey(from, to)[0] != to;
        }

        int lostPairs() {
            int lost = 0;
            for (int a = 0; a < n; a++) {
                for (int b = 0; b < n; b++) {
                    lost += a != b && isLost(a, b) ? 1 : 0;
                }
            }
            return lost;
        }

        int allWays() {
            int all = 0;
            for (int a = 0; a < n; a++) {
                for (int b = 0; b < n; b++) {
                    all += a == b ? 0 : way[a][b] < 0 ? 999 : way[a][b];
                }
            }
            return all;
        }

        int chain(int a, int b) {
            List<Integer> come = new ArrayList<>(List.of(a));
            for (int names = 1; names < 7; names++) {
                List<Integer> then = new ArrayList<>();
                for (int p : come) {
                    for (int q = 0; q < n; q++) {
                        if (s.named[p][q]) {
                            then.add(q);
                        }
                    }
                }
                if (then.contains(b)) {
                    return names;
                }
                come = then.stream().distinct().toList();
            }
            return -5;
        }
    }

    private Asked asked() {
        return new Asked(now);
    }

    private boolean is(int... places) {
        return Arrays.stream(places).allMatch(p -> p >= 0 && p < now.size());
    }

    // ---- the face

    int place(int kind, int v, int people) {
        if (kind < 0 || kind > 6) return -1;
        if (v < 0 || v > 9 || people < 0 || people > 99) return -2;
        if (now.size() == 7) return -4;
        now.places.add(new int[] {kind, v, people});
        return now.size() - 1;
    }

    int of(int place, int what) {
        if (!is(place) || what < 0 || what > 5) return -1;
        if (what < 3) return now.places.get(place)[what];
        if (what == 3) return sizeOf(now, place);
        int bits = 0;
        for (int p = 0; p < 7; p++) {
            if (what == 4 ? now.named[place][p] : now.miles[place][p] > 0) bits += 1 << p;
        }
        return bits;
    }

    int road(int a, int b, int miles) {
        if (!is(a, b)) return -1;
        if (a == b || miles < 0 || miles > 99) return -2;
        int had = now.miles[a][b];
        now.miles[a][b] = miles;
        now.miles[b][a] = miles;
        return had;
    }

    int far(int a, int b) {
        return is(a, b) ? longOf(now, a, b) : -1;
    }

    int name(int a, int b) {
        if (!is(a, b)) return -1;
        if (a == b) return -2;
        if (now.named[a][b]) return -3;
        if (Math.max(now.names(a), now.names(b)) >= arms(now)) return -4;
        now.turn(a, b, true);
        return now.names(a);
    }

    int strike(int a, int b) {
        if (!is(a, b)) return -1;
        if (!now.named[a][b]) return -3;
        now.turn(a, b, false);
        return now.names(a);
    }

    int traveller(int from, int to, int many) {
        if (!is(from, to)) return -1;
        if (from == to || many < 1 || many > 99) return -2;
        if (now.travellers.size() == 8) return -4;
        now.travellers.add(new int[] {from, to, many});
        return now.travellers.size() - 1;
    }

    int feed(int sign) {
        if (sign < 0 || sign > 127) return -2;
        if (text.length() == 100) return -4;
        return text.append((char) sign).length();
    }

    int land() {
        if (lands == 6) return -4;
        String s = text.toString();
        text.setLength(0);
        int fault = fault(s);
        if (fault >= 0) return -10 - fault;
        now.land = s;
        return lands++;
    }

    int told(int what) {
        int names = 0;
        for (int p = 0; p < 7; p++) names += now.names(p);
        return what == 0 ? arms(now) : what == 1 ? names / 2 : -1;
    }

    int way(int a, int b) {
        return is(a, b) ? asked().way[a][b] : -1;
    }

    int toward(int a, int b) {
        return is(a, b) ? asked().toward[a][b] : -1;
    }

    int next(int a, int b) {
        return !is(a, b) ? -1 : a == b ? -2 : asked().next(a, b);
    }

    int gone(int a, int b, int what) {
        if (!is(a, b) || what < 0 || what > 1) return -1;
        if (a == b) return -2;
        int[] j = asked().journey(a, b);
        return j[0] != b ? -5 : what == 0 ? j[2] : j[1];
    }

    int lost(int what) {
        if (what < 0 || what > 1) return -1;
        Asked q = asked();
        return what == 1 ? q.lostPairs()
                : now.travellers.stream().filter(t -> q.isLost(t[0], t[1])).mapToInt(t -> t[2]).sum();
    }

    int longest(int what) {
        if (what < 0 || what > 1) return -1;
        Asked q = asked();
        int most = 0;
        int pair = -5;
        for (int p = 0; p < 70; p++) {
            if (is(p / 10, p % 10) && p / 10 != p % 10 && !q.isLost(p / 10, p % 10)) {
                int l = q.journey(p / 10, p % 10)[2];
                if (l > most) {
                    most = l;
                    pair = p;
                }
            }
        }
        return what == 0 ? most : pair;
    }

    private int bestTurn(boolean up, int what) {
        if (what < 0 || what > 1) return -1;
        int pair = -5;
        int best = -5;
        for (int p = 0; p < 70; p++) {
            int a = p / 10;
            int b = p % 10;
            if (a >= b || !is(a, b) || now.named[a][b] == up) continue;
            if (up && Math.max(now.names(a), now.names(b)) >= arms(now)) continue;
            State then = now.copy();
            then.turn(a, b, up);
            int lost = new Asked(then).lostPairs();
            if (pair < 0 || (up ? lost < best : lost > best)) {
                pair = p;
                best = lost;
            }
        }
        return what == 0 ? pair : best;
    }

    int put(int what) {
        return bestTurn(true, what);
    }

    int worst(int what) {
        return bestTurn(false, what);
    }

    int turned(int place, int named) {
        if (!is(place, named)) return -1;
        if (!now.named[place][named]) return -3;
        Asked q = asked();
        q.falseAt = place;
        q.falseNamed = named;
        return q.lostPairs();
    }

    int chain(int a, int b) {
        return !is(a, b) ? -1 : a == b ? -2 : asked().chain(a, b);
    }

    int allIn(int n) {
        if (n < 1 || n > 6) return -2;
        Asked q = asked();
        for (int a = 0; a < now.size(); a++) {
            for (int b = 0; b < now.size(); b++) {
                if (a != b && (q.chain(a, b) < 0 || q.chain(a, b) > n)) return 0;
            }
        }
        return 1;
    }

    int capitals() {
        int bits = 0;
        for (int p = 0; p < now.size(); p++) {
            boolean most = true;
            for (int q = 0; q < now.size(); q++) most &= now.names(q) <= now.names(p);
            bits |= most ? 1 << p : 0;
        }
        return bits;
    }

    int newRoad(int n, int what) {
        if (what < 0 || what > 1) return -1;
        if (n < 1 || n > 99) return -2;
        int pair = -5;
        int least = 0;
        for (int p = 0; p < 70; p++) {
            int a = p / 10;
            int b = p % 10;
            if (a >= b || !is(a, b) || now.miles[a][b] > 0) continue;
            State then = now.copy();
            then.miles[a][b] = n;
            then.miles[b][a] = n;
            int all = new Asked(then).allWays();
            if (pair < 0 || all < least) {
                pair = p;
                least = all;
            }
        }
        return what == 0 || pair < 0 ? pair : asked().allWays() - least;
    }

    int gets(int place) {
        if (!is(place)) return -1;
        Asked q = asked();
        return now.travellers.stream().filter(t -> q.isLost(t[0], t[1]) && q.journey(t[0], t[1])[0] == place)
                .mapToInt(t -> t[2]).sum();
    }

    private static long part(BigInteger above, BigInteger below, int part) {
        BigInteger g = above.gcd(below);
        return (part == 0 ? above : below).divide(g).longValueExact();
    }

    long odds(int from, int to, int n, int part) {
        if (!is(from, to) || n < 0 || n > 6 || part < 0 || part > 1) return NO;
        Asked q = asked();
        // above[p] / below: how likely one is at p
        BigInteger[] above = new BigInteger[7];
        Arrays.fill(above, BigInteger.ZERO);
        above[from] = BigInteger.ONE;
        BigInteger below = BigInteger.ONE;
        BigInteger wide = BigInteger.valueOf(720);
        for (int k = 0; k < n; k++) {
            BigInteger[] then = new BigInteger[7];
            Arrays.fill(then, BigInteger.ZERO);
            for (int p = 0; p < now.size(); p++) {
                List<Integer> ends = new ArrayList<>();
                for (int d = 0; d < now.size(); d++) {
                    if (now.named[p][d]) ends.add(q.toward[p][d] < 0 ? p : q.toward[p][d]);
                }
                if (ends.isEmpty()) ends.add(p);
                for (int e : ends) {
                    then[e] = then[e].add(above[p].multiply(wide).divide(BigInteger.valueOf(ends.size())));
                }
            }
            above = then;
            below = below.multiply(wide);
        }
        return part(above[to], below, part);
    }

    long mean(int part) {
        Asked q = asked();
        long sum = 0;
        long many = 0;
        for (int a = 0; a < now.size(); a++) {
            for (int b = 0; b < now.size(); b++) {
                if (a != b && !q.isLost(a, b)) {
                    sum += q.journey(a, b)[2];
                    many++;
                }
            }
        }
        return many == 0 || part < 0 || part > 1 ? NO : part(BigInteger.valueOf(sum), BigInteger.valueOf(many), part);
    }

    int book(int place) {
        if (place == -1) {
            now.book.clear();
            return 0;
        }
        if (!is(place)) return -1;
        if (now.book.size() == 12) return -4;
        now.book.add(place);
        return now.book.size();
    }

    int looked(int to) {
        if (!is(to)) return -1;
        Asked q = asked();
        for (int row = 1; row < now.book.size(); row++) {
            if (q.next(now.book.get(row - 1), to) != now.book.get(row)) return row;
        }
        return -5;
    }

    int judge(int tape, int i) {
        if (tape < 0 || tape > 5) return -1;
        if (tapes[tape] != null && !(tapes[tape] instanceof int[])) return -12;
        int[] row = tapes[tape] == null ? new int[0] : (int[]) tapes[tape];
        for (int p = 0; p < now.size(); p++) {
            long at = (long) i + p;
            if (i < 0 || at >= row.length) return 100 + p;
            if (row[(int) at] != sizeOf(now, p)) return p;
        }
        return -5;
    }

    int image() {
        image = now.copy();
        return now.size();
    }

    int undo() {
        if (image == null) return -3;
        now = image.copy();
        return now.size();
    }

    // ---- acts

    private class Place {
        final int i;
        final int v;

        Place(int i, int v) {
            this.i = i;
            this.v = v;
        }

        int points(int x) {
            trace.add(10);
            return x + i;
        }

        int names(int x) {
            trace.add(11);
            return points(x) - v;
        }

        int tells(int x) {
            trace.add(12);
            return names(x) * 2;
        }
    }

    private class Near extends Place {
        Near(int i, int v) {
            super(i, v);
        }

        int names(int x) {
            trace.add(20);
            return super.names(x) ^ 6;
        }
    }

    private class Great extends Place {
        Great(int i, int v) {
            super(i, v);
        }

        int points(int x) {
            trace.add(30);
            return super.points(x * 3);
        }
    }

    private class Last extends Place {
        Last(int i, int v) {
            super(i, v);
        }

        int tells(int x) {
            trace.add(40);
            return super.tells(x) + names(1);
        }
    }

    private class Asking extends Near {
        Asking(int i, int v) {
            super(i, v);
        }

        int points(int x) {
            trace.add(50);
            return -super.points(x);
        }

        int names(int x) {
            trace.add(51);
            return super.names(x + 1);
        }
    }

    private class Capital extends Great {
        Capital(int i, int v) {
            super(i, v);
        }

        int tells(int x) {
            trace.add(60);
            return super.tells(x - i);
        }
    }

    private class Drowned extends Last {
        Drowned(int i, int v) {
            super(i, v);
        }

        int names(int x) {
            trace.add(70);
            return super.names(x) + super.points(2);
        }

        int points(int x) {
            trace.add(71);
            return super.points(x) ^ v;
        }
    }

    int act(int place, int act, int x) {
        trace.clear();
        if (!is(place) || act < 0 || act > 2) return 0;
        int v = now.places.get(place)[1];
        Place[] all = {new Place(place, v), new Near(place, v), new Great(place, v), new Last(place, v),
            new Asking(place, v), new Capital(place, v), new Drowned(place, v)};
        Place it = all[now.places.get(place)[0]];
        return act == 0 ? it.points(x) : act == 1 ? it.names(x) : it.tells(x);
    }

    int trace(int i) {
        return i >= 0 && i < Math.min(20, trace.size()) ? trace.get(i) : -1;
    }

    int taken(int place, int k) {
        if (k < 0 || k > 6) return -2;
        if (!is(place)) return -11;
        int kind = now.places.get(place)[0];
        boolean under = kind == k || k == 0 || UNDER[kind] == k;
        return under ? kind : -12;
    }

    int count(int what) {
        int[] counts = {now.size(), lands, now.travellers.size(), now.book.size(), text.length(), trace.size()};
        return what < 0 || what > 5 ? -2 : counts[what];
    }

    // ---- tapes, as the host's own arrays

    private static final Class<?>[] SORTS = {byte.class, short.class, int.class, long.class, boolean.class};

    int tape(int tape, int sort, int n) {
        if (tape < 0 || tape > 5) return -1;
        if (sort < -1 || sort > 4 || sort >= 0 && n > 60) return -2;
        if (sort == -1) {
            tapes[tape] = null;
            return 1;
        }
        try {
            tapes[tape] = Array.newInstance(SORTS[sort], n);
            return 1;
        } catch (NegativeArraySizeException e) {
            return -14;
        }
    }

    int item(int tape, int i, long v) {
        if (tape < 0 || tape > 5) return -1;
        Object row = tapes[tape];
        if (row == null) return -11;
        try {
            if (row instanceof byte[] b) b[i] = (byte) v;
            if (row instanceof short[] b) b[i] = (short) v;
            if (row instanceof int[] b) b[i] = (int) v;
            if (row instanceof long[] b) b[i] = v;
            if (row instanceof boolean[] b) b[i] = v != 0;
            return 1;
        } catch (ArrayIndexOutOfBoundsException e) {
            return -13;
        }
    }

    long read(int tape, int i) {
        if (tape < 0 || tape > 5 || tapes[tape] == null) return NO;
        try {
            return tapes[tape] instanceof boolean[] b ? b[i] ? 1 : 0 : Array.getLong(tapes[tape], i);
        } catch (ArrayIndexOutOfBoundsException e) {
            return NO;
        }
    }

    @SuppressWarnings("SuspiciousSystemArraycopy")
    int shift(int tape, int i, int other, int j, int n) {
        if (tape < 0 || tape > 5 || other < 0 || other > 5) return -1;
        try {
            System.arraycopy(tapes[tape], i, tapes[other], j, n);
            return n;
        } catch (NullPointerException e) {
            return -11;
        } catch (ArrayStoreException e) {
            return -12;
        } catch (IndexOutOfBoundsException e) {
            return -13;
        }
    }
}
