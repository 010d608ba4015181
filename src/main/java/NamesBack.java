import java.util.Arrays;

/** Places with posts, roads and names: who goes where, who is lost. DOC.md promises what each call answers. */
public final class NamesBack {
    public static final int NONE = -1, BAD = -2, STATE = -3, FULL = -4;
    public static final long NO = Long.MIN_VALUE;

    /** The answer where there is no WAY, no pair, no row; also where one goes nowhere. */
    private static final int NOWHERE = -5;
    private static final int NOTHING = -11, CAST = -12, OUTSIDE = -13, BELOW = -14;

    private static final int PLACE = 0, NEAR = 1, GREAT = 2, LAST = 3, ASKING = 4, CAPITAL = 5, DROWNED = 6;
    private static final int KINDS = 7;
    /** The KIND above each KIND; there is none above PLACE. */
    private static final int[] ABOVE = {-1, PLACE, PLACE, PLACE, NEAR, GREAT, LAST};

    private static final int MOST_PLACES = 7;
    private static final int MOST_TRAVELLERS = 8;
    private static final int MOST_ROWS = 12;
    private static final int MOST_SIGNS = 100;
    private static final int MOST_LANDS = 6;
    private static final int MOST_CLAUSES = 10;
    private static final int MOST_STEPS = 6;
    private static final int TAPES = 6;

    /** What a CLAUSE is of: great, far, arms, as their first signs stand in "gfa". */
    private static final int OF_PLACES = 0, OF_ROADS = 1, OF_ARMS = 2;

    private final Journeys journeys = new Journeys();
    /** The World that the journeys are of. */
    private final World world = journeys.world;
    private final World kept = new World();
    private boolean imaged;
    private final Land noLand = new Land();
    private final Land[] lands = new Land[MOST_LANDS];
    private int landCount;
    private final LandReader reader = new LandReader();
    private final Acts acts = new Acts();
    private final Tape[] tapes = new Tape[TAPES];

    public NamesBack() {
        for (int k = 0; k < MOST_LANDS; k++) {
            lands[k] = new Land();
        }
        for (int k = 0; k < TAPES; k++) {
            tapes[k] = new Tape();
        }
    }

    // ---- places, roads, names, lands

    public int place(int kind, int v, int people) {
        if (kind < PLACE || kind > DROWNED) {
            return NONE;
        }
        if (v < 0 || v > 9 || people < 0 || people > 99) {
            return BAD;
        }
        if (world.places >= MOST_PLACES) {
            return FULL;
        }
        return world.addPlace(kind, v, people);
    }

    public int of(int place, int what) {
        if (!world.has(place)) {
            return NONE;
        }
        switch (what) {
            case 0: return world.kind[place];
            case 1: return world.v[place];
            case 2: return world.people[place];
            case 3: return look().sizes[place];
            case 4: return world.named[place];
            case 5: return world.roadsOf(place);
            default: return NONE;
        }
    }

    public int road(int one, int other, int miles) {
        if (!world.has(one) || !world.has(other)) {
            return NONE;
        }
        if (one == other || miles < 0 || miles > 99) {
            return BAD;
        }
        int before = world.miles[index(one, other)];
        world.setMiles(one, other, miles);
        return before;
    }

    public int far(int one, int other) {
        if (!world.has(one) || !world.has(other)) {
            return NONE;
        }
        return look().longs[index(one, other)];
    }

    public int name(int one, int other) {
        if (!world.has(one) || !world.has(other)) {
            return NONE;
        }
        if (one == other) {
            return BAD;
        }
        if (world.names(one, other)) {
            return STATE;
        }
        if (!hasArmFree(one) || !hasArmFree(other)) {
            return FULL;
        }
        world.turnName(one, other);
        return Integer.bitCount(world.named[one]);
    }

    public int strike(int one, int other) {
        if (!world.has(one) || !world.has(other)) {
            return NONE;
        }
        if (!world.names(one, other)) {
            return STATE;
        }
        world.turnName(one, other);
        return Integer.bitCount(world.named[one]);
    }

    public int traveller(int from, int to, int many) {
        if (!world.has(from) || !world.has(to)) {
            return NONE;
        }
        if (from == to || many < 1 || many > 99) {
            return BAD;
        }
        if (world.travellers >= MOST_TRAVELLERS) {
            return FULL;
        }
        return world.addTraveller(from, to, many);
    }

    public int feed(int sign) {
        if (sign < 0 || sign > 127) {
            return BAD;
        }
        if (reader.length >= MOST_SIGNS) {
            return FULL;
        }
        return reader.addSign((char) sign);
    }

    public int land() {
        if (landCount >= MOST_LANDS) {
            return FULL;
        }
        // a faulty text leaves this LAND half made; it is not counted yet, and is made anew by the next text
        int fault = reader.faultOf(lands[landCount]);
        reader.empty();
        if (fault >= 0) {
            return -10 - fault;
        }
        world.land = landCount;
        landCount++;
        return world.land;
    }

    public int told(int what) {
        switch (what) {
            case 0: return holding().arms;
            case 1: return world.countNames();
            default: return NONE;
        }
    }

    // ---- ways, journeys

    public int way(int one, int other) {
        if (!world.has(one) || !world.has(other)) {
            return NONE;
        }
        look();
        return journeys.leads(one, other) ? journeys.ways[index(one, other)] : NOWHERE;
    }

    public int toward(int one, int other) {
        if (!world.has(one) || !world.has(other)) {
            return NONE;
        }
        return look().towards[index(one, other)];
    }

    public int next(int place, int to) {
        if (!world.has(place) || !world.has(to)) {
            return NONE;
        }
        if (place == to) {
            return BAD;
        }
        return look().steps[index(place, to)];
    }

    public int gone(int from, int to, int what) {
        if (!world.has(from) || !world.has(to) || !isPart(what)) {
            return NONE;
        }
        if (from == to) {
            return BAD;
        }
        if (look().walk(from, to) != to) {
            return NOWHERE;
        }
        return what == 0 ? journeys.walkedLong : journeys.walkedRoads;
    }

    public int lost(int what) {
        switch (what) {
            case 0: return look().lostTravellers();
            case 1: return look().lostPairs();
            default: return NONE;
        }
    }

    public int longest(int what) {
        if (!isPart(what)) {
            return NONE;
        }
        int pair = look().longestPair();
        if (what == 1) {
            return pair;
        }
        if (pair < 0) {
            return 0;
        }
        journeys.walk(pair / 10, pair % 10);
        return journeys.walkedLong;
    }

    // ---- what to put up, to strike off

    public int put(int what) {
        return isPart(what) ? bestTurn(true, what) : NONE;
    }

    public int worst(int what) {
        return isPart(what) ? bestTurn(false, what) : NONE;
    }

    public int turned(int place, int named) {
        if (!world.has(place) || !world.has(named)) {
            return NONE;
        }
        if (!world.names(place, named)) {
            return STATE;
        }
        journeys.setFalseArm(place, named);
        int lost = look().lostPairs();
        journeys.dropFalseArm();
        return lost;
    }

    public int chain(int one, int other) {
        if (!world.has(one) || !world.has(other)) {
            return NONE;
        }
        if (one == other) {
            return BAD;
        }
        for (int n = 1; n < MOST_PLACES; n++) {
            if ((world.comeToBy(one, n) & 1 << other) != 0) {
                return n;
            }
        }
        return NOWHERE;
    }

    public int allIn(int n) {
        if (n < 1 || n > 6) {
            return BAD;
        }
        int all = (1 << world.places) - 1;
        for (int one = 0; one < world.places; one++) {
            if (world.comeToBy(one, n) != all) {
                return 0;
            }
        }
        return 1;
    }

    public int capitals() {
        int most = 0;
        int bits = 0;
        for (int p = 0; p < world.places; p++) {
            int at = Integer.bitCount(world.named[p]);
            if (at > most) {
                most = at;
                bits = 0;
            }
            if (at == most) {
                bits |= 1 << p;
            }
        }
        return bits;
    }

    public int newRoad(int n, int what) {
        if (!isPart(what)) {
            return NONE;
        }
        if (n < 1 || n > 99) {
            return BAD;
        }
        int now = look().allWays();
        int pair = NOWHERE;
        int least = 0;
        for (int one = 0; one < world.places; one++) {
            for (int other = one + 1; other < world.places; other++) {
                if (world.miles[index(one, other)] == 0) {
                    int all = allWaysWith(one, other, n);
                    if (pair == NOWHERE || all < least) {
                        pair = 10 * one + other;
                        least = all;
                    }
                }
            }
        }
        return what == 0 || pair == NOWHERE ? pair : now - least;
    }

    // ---- who is lost, odds, books

    public int gets(int place) {
        if (!world.has(place)) {
            return NONE;
        }
        look();
        int got = 0;
        for (int t = 0; t < world.travellers; t++) {
            int stands = journeys.walk(world.from[t], world.to[t]);
            if (stands != world.to[t] && stands == place) {
                got += world.many[t];
            }
        }
        return got;
    }

    public long odds(int from, int to, int n, int part) {
        if (!world.has(from) || !world.has(to) || n < 0 || n > MOST_STEPS || !isPart(part)) {
            return NO;
        }
        long above = look().sharesAt(from, to, n);
        long below = 1;
        for (int k = 0; k < n; k++) {
            below *= Journeys.SHARES;
        }
        return inLowestTerms(above, below, part);
    }

    public long mean(int part) {
        if (!isPart(part)) {
            return NO;
        }
        look();
        long all = 0;
        long many = 0;
        for (int from = 0; from < world.places; from++) {
            for (int to = 0; to < world.places; to++) {
                if (from != to && journeys.walk(from, to) == to) {
                    all += journeys.walkedLong;
                    many++;
                }
            }
        }
        return many == 0 ? NO : inLowestTerms(all, many, part);
    }

    public int book(int place) {
        if (place == -1) {
            world.rows = 0;
            return 0;
        }
        if (!world.has(place)) {
            return NONE;
        }
        if (world.rows >= MOST_ROWS) {
            return FULL;
        }
        world.book[world.rows] = place;
        world.rows++;
        return world.rows;
    }

    public int looked(int to) {
        if (!world.has(to)) {
            return NONE;
        }
        look();
        for (int row = 1; row < world.rows; row++) {
            if (journeys.steps[index(world.book[row - 1], to)] != world.book[row]) {
                return row;
            }
        }
        return NOWHERE;
    }

    // ---- judging, the image, acts, tapes

    public int judge(int tape, int i) {
        if (!isTape(tape)) {
            return NONE;
        }
        Tape told = tapes[tape];
        if (told.sort != Tape.NO_ROW && told.sort != Tape.INTS) {
            return CAST;
        }
        look();
        for (int p = 0; p < world.places; p++) {
            // i + p could wrap; the length less p cannot
            if (i < 0 || i >= told.length - p) {
                return 100 + p;
            }
            if (told.items[i + p] != journeys.sizes[p]) {
                return p;
            }
        }
        return NOWHERE;
    }

    public int image() {
        kept.becomeAs(world);
        imaged = true;
        return world.places;
    }

    public int undo() {
        if (!imaged) {
            return STATE;
        }
        world.becomeAs(kept);
        return world.places;
    }

    public int act(int place, int act, int x) {
        acts.forget();
        if (!world.has(place)) {
            return 0;
        }
        acts.standAt(place, world.kind[place], world.v[place]);
        switch (act) {
            case 0: return acts.points(world.kind[place], x, 0);
            case 1: return acts.names(world.kind[place], x, 0);
            case 2: return acts.tells(world.kind[place], x, 0);
            default: return 0;
        }
    }

    public int trace(int i) {
        return i >= 0 && i < Acts.KEPT && i < acts.ran ? acts.bodies[i] : NONE;
    }

    public int taken(int place, int k) {
        if (k < PLACE || k > DROWNED) {
            return BAD;
        }
        if (!world.has(place)) {
            return NOTHING;
        }
        return isUnder(world.kind[place], k) ? world.kind[place] : CAST;
    }

    public int count(int what) {
        switch (what) {
            case 0: return world.places;
            case 1: return landCount;
            case 2: return world.travellers;
            case 3: return world.rows;
            case 4: return reader.length;
            case 5: return acts.ran;
            default: return BAD;
        }
    }

    public int tape(int tape, int sort, int n) {
        if (!isTape(tape)) {
            return NONE;
        }
        if (sort == Tape.NO_ROW) {
            tapes[tape].become(sort, 0);
            return 1;
        }
        if (sort < Tape.BYTES || sort > Tape.BOOLEANS || n > Tape.MOST_ITEMS) {
            return BAD;
        }
        if (n < 0) {
            return BELOW;
        }
        tapes[tape].become(sort, n);
        return 1;
    }

    public int item(int tape, int i, long v) {
        if (!isTape(tape)) {
            return NONE;
        }
        Tape row = tapes[tape];
        if (row.sort == Tape.NO_ROW) {
            return NOTHING;
        }
        if (!row.spans(i, 1)) {
            return OUTSIDE;
        }
        row.items[i] = row.asItem(v);
        return 1;
    }

    public long read(int tape, int i) {
        if (!isTape(tape) || !tapes[tape].spans(i, 1)) {
            return NO;
        }
        return tapes[tape].items[i];
    }

    public int shift(int tape, int i, int other, int j, int n) {
        if (!isTape(tape) || !isTape(other)) {
            return NONE;
        }
        Tape from = tapes[tape];
        Tape to = tapes[other];
        if (from.sort == Tape.NO_ROW || to.sort == Tape.NO_ROW) {
            return NOTHING;
        }
        if (from.sort != to.sort) {
            return CAST;
        }
        if (!from.spans(i, n) || !to.spans(j, n)) {
            return OUTSIDE;
        }
        System.arraycopy(from.items, i, to.items, j, n);
        return n;
    }

    // ---- what the calls share

    /** Where a row that tells of two PLACES tells of these; both are below MOST_PLACES. */
    private static int index(int one, int other) {
        return one * MOST_PLACES + other;
    }

    /** Whether a call's last number asks for the one (0) or the other (1) of its two answers. */
    private static boolean isPart(int what) {
        return what == 0 || what == 1;
    }

    private static boolean isTape(int tape) {
        return tape >= 0 && tape < TAPES;
    }

    private static boolean isUnder(int kind, int k) {
        int above = kind;
        for (int up = 0; up < KINDS && above >= 0 && above < KINDS; up++) {
            if (above == k) {
                return true;
            }
            above = ABOVE[above];
        }
        return false;
    }

    private static long inLowestTerms(long above, long below, int part) {
        long most = above;
        long rest = below;
        // Euclid's steps on longs are fewer than a hundred
        for (int k = 0; k < 100 && rest != 0; k++) {
            long left = most % rest;
            most = rest;
            rest = left;
        }
        long asked = part == 0 ? above : below;
        return most == 0 ? asked : asked / most;
    }

    private Land holding() {
        return world.land >= 0 && world.land < MOST_LANDS ? lands[world.land] : noLand;
    }

    /** Finds the JOURNEYS as all stands now; each call that asks for one begins so. */
    private Journeys look() {
        journeys.findSizes(holding());
        journeys.findLongs();
        journeys.findWays();
        journeys.findTowards();
        journeys.findSteps();
        return journeys;
    }

    private boolean hasArmFree(int p) {
        return Integer.bitCount(world.named[p]) < holding().arms;
    }

    /** PUT (up) or STRIKE: which pair (what 0), or how many are LOST then (what 1). */
    private int bestTurn(boolean up, int what) {
        int pair = NOWHERE;
        int best = NOWHERE;
        for (int one = 0; one < world.places; one++) {
            for (int other = one + 1; other < world.places; other++) {
                if (!(up ? mayName(one, other) : world.names(one, other))) {
                    continue;
                }
                world.turnName(one, other);
                int lost = look().lostPairs();
                world.turnName(one, other);
                if (pair == NOWHERE || (up ? lost < best : lost > best)) {
                    pair = 10 * one + other;
                    best = lost;
                }
            }
        }
        return what == 0 ? pair : best;
    }

    private boolean mayName(int one, int other) {
        return !world.names(one, other) && hasArmFree(one) && hasArmFree(other);
    }

    private int allWaysWith(int one, int other, int miles) {
        world.setMiles(one, other, miles);
        int all = look().allWays();
        world.setMiles(one, other, 0);
        return all;
    }

    /** All that THE IMAGE holds. What is not a PLACE's is 0, so a new PLACE begins without ROADS and NAMES. */
    private static final class World {
        private int places;
        private final int[] kind = new int[MOST_PLACES];
        private final int[] v = new int[MOST_PLACES];
        private final int[] people = new int[MOST_PLACES];
        private final int[] miles = new int[MOST_PLACES * MOST_PLACES];
        private final int[] named = new int[MOST_PLACES];
        private int travellers;
        private final int[] from = new int[MOST_TRAVELLERS];
        private final int[] to = new int[MOST_TRAVELLERS];
        private final int[] many = new int[MOST_TRAVELLERS];
        private int rows;
        private final int[] book = new int[MOST_ROWS];
        private int land = NONE;

        private boolean has(int p) {
            return p >= 0 && p < places;
        }

        private int addPlace(int itsKind, int itsV, int itsPeople) {
            int p = places;
            kind[p] = itsKind;
            v[p] = itsV;
            people[p] = itsPeople;
            places++;
            return p;
        }

        private int addTraveller(int itsFrom, int itsTo, int itsMany) {
            int t = travellers;
            from[t] = itsFrom;
            to[t] = itsTo;
            many[t] = itsMany;
            travellers++;
            return t;
        }

        private void setMiles(int one, int other, int length) {
            miles[index(one, other)] = length;
            miles[index(other, one)] = length;
        }

        private boolean names(int one, int other) {
            return (named[one] & 1 << other) != 0;
        }

        /** Puts a pair's names up where they are not, strikes them off where they are. */
        private void turnName(int one, int other) {
            named[one] ^= 1 << other;
            named[other] ^= 1 << one;
        }

        private int countNames() {
            int ends = 0;
            for (int p = 0; p < places; p++) {
                ends += Integer.bitCount(named[p]);
            }
            return ends / 2;
        }

        private int roadsOf(int p) {
            int bits = 0;
            for (int other = 0; other < places; other++) {
                if (miles[index(p, other)] > 0) {
                    bits |= 1 << other;
                }
            }
            return bits;
        }

        /** The PLACES, as bits, to which one comes by n names or fewer, this one among them. */
        private int comeToBy(int one, int n) {
            int come = 1 << one;
            for (int k = 0; k < n; k++) {
                int before = come;
                for (int p = 0; p < places; p++) {
                    if ((before & 1 << p) != 0) {
                        come |= named[p];
                    }
                }
            }
            return come;
        }

        /** What the letters pkvcnr of a TEST say of a PLACE, in their order. */
        private void tellFacts(int p, int[] facts) {
            facts[0] = p;
            facts[1] = kind[p];
            facts[2] = v[p];
            facts[3] = people[p] / 10;
            facts[4] = Integer.bitCount(named[p]);
            facts[5] = Integer.bitCount(roadsOf(p));
        }

        private void becomeAs(World other) {
            places = other.places;
            System.arraycopy(other.kind, 0, kind, 0, MOST_PLACES);
            System.arraycopy(other.v, 0, v, 0, MOST_PLACES);
            System.arraycopy(other.people, 0, people, 0, MOST_PLACES);
            System.arraycopy(other.miles, 0, miles, 0, MOST_PLACES * MOST_PLACES);
            System.arraycopy(other.named, 0, named, 0, MOST_PLACES);
            travellers = other.travellers;
            System.arraycopy(other.from, 0, from, 0, MOST_TRAVELLERS);
            System.arraycopy(other.to, 0, to, 0, MOST_TRAVELLERS);
            System.arraycopy(other.many, 0, many, 0, MOST_TRAVELLERS);
            rows = other.rows;
            System.arraycopy(other.book, 0, book, 0, MOST_ROWS);
            land = other.land;
        }
    }

    /** A LAND's CLAUSES; each E is kept as codes, a TEST's or what is done with the truths ahead of it. */
    private static final class Land {
        private static final int NOT = -1, AND = -2, OR = -3;

        private final int[] codes = new int[MOST_SIGNS];
        private int codeCount;
        private final int[] sort = new int[MOST_CLAUSES];
        private final int[] n = new int[MOST_CLAUSES];
        private final int[] end = new int[MOST_CLAUSES];
        private int clauses;
        private int arms = 4;

        private void clear() {
            codeCount = 0;
            clauses = 0;
            arms = 4;
        }

        private void addCode(int code) {
            if (codeCount < MOST_SIGNS) {
                codes[codeCount] = code;
                codeCount++;
            }
        }

        private void addTest(int letter, int sign, int number) {
            addCode(letter * 300 + sign * 100 + number);
        }

        /** Ends a CLAUSE, whose E is the codes since the one ahead of it. */
        private void addClause(int itsSort, int itsN) {
            if (itsSort == OF_ARMS) {
                arms = itsN;
            }
            if (clauses < MOST_CLAUSES) {
                sort[clauses] = itsSort;
                n[clauses] = itsN;
                end[clauses] = codeCount;
                clauses++;
            }
        }

        /** The n of all CLAUSES of a sort whose E holds, together. */
        private int together(int itsSort, int[] facts) {
            int sum = 0;
            int start = 0;
            for (int k = 0; k < clauses; k++) {
                if (sort[k] == itsSort && holds(start, end[k], facts)) {
                    sum += n[k];
                }
                start = end[k];
            }
            return sum;
        }

        private boolean holds(int start, int stop, int[] facts) {
            // a stack of bits, the newest lowest: within 4 ( or ! no more than 11 stand in it
            int truths = 0;
            for (int k = start; k < stop; k++) {
                int code = codes[k];
                if (code == NOT) {
                    truths ^= 1;
                } else if (code == AND) {
                    truths = (truths >> 1) & (truths | ~1);
                } else if (code == OR) {
                    truths = (truths >> 1) | (truths & 1);
                } else {
                    truths = truths << 1 | (passes(code, facts) ? 1 : 0);
                }
            }
            return (truths & 1) == 1;
        }

        private static boolean passes(int code, int[] facts) {
            int fact = facts[code / 300];
            int number = code % 100;
            switch (code / 100 % 3) {
                case 0: return fact < number;
                case 1: return fact == number;
                default: return fact > number;
            }
        }
    }

    /** Holds THE TEXT and reads it; each part answers whether it stands there, and if not, at is the FAULT. */
    private static final class LandReader {
        private static final int MOST_AROUND = 4;
        /** No sign that can be fed. */
        private static final char END = (char) 255;

        private final char[] text = new char[MOST_SIGNS];
        private int length;
        private int at;
        private Land land = new Land();

        private int addSign(char sign) {
            if (length < MOST_SIGNS) {
                text[length] = sign;
                length++;
            }
            return length;
        }

        private void empty() {
            length = 0;
        }

        /** The FAULT of THE TEXT, or -1: it is a LAND, which this one becomes. */
        private int faultOf(Land into) {
            at = 0;
            land = into;
            land.clear();
            for (int k = 0; k < MOST_CLAUSES; k++) {
                if (k > 0 && !takes(';') || !readsClause()) {
                    return at;
                }
                if (at == length) {
                    return -1;
                }
            }
            return at;
        }

        private char ahead() {
            return at < length ? text[at] : END;
        }

        private boolean takes(char sign) {
            if (ahead() != sign) {
                return false;
            }
            at++;
            return true;
        }

        private boolean takesWord(String word) {
            for (int k = 0; k < word.length(); k++) {
                if (!takes(word.charAt(k))) {
                    return false;
                }
            }
            return true;
        }

        private boolean readsClause() {
            int sort = "gfa".indexOf(ahead());
            if (sort < 0 || !takesWord(sort == OF_PLACES ? "great " : sort == OF_ROADS ? "far " : "arms ")) {
                return false;
            }
            int n = takeNumber();
            if (n < 0) {
                return false;
            }
            if (sort != OF_ARMS && !(takes(' ') && readsEither(0))) {
                return false;
            }
            land.addClause(sort, n);
            return true;
        }

        /** A number of 1 or 2 digits, or -1: there is none. */
        private int takeNumber() {
            int number = -1;
            for (int k = 0; k < 2 && ahead() >= '0' && ahead() <= '9'; k++) {
                number = Math.max(number, 0) * 10 + ahead() - '0';
                at++;
            }
            return number;
        }

        /** An E within so many ( and !; what & joins is one T of it. */
        private boolean readsEither(int around) {
            boolean and = false;
            boolean or = false;
            for (int k = 0; k < MOST_SIGNS; k++) {
                if (!readsPart(around)) {
                    return false;
                }
                if (and) {
                    land.addCode(Land.AND);
                }
                and = takes('&');
                if (!and) {
                    if (or) {
                        land.addCode(Land.OR);
                    }
                    or = takes('|');
                    if (!or) {
                        return true;
                    }
                }
            }
            return false;
        }

        /** An F within so many ( and !. */
        private boolean readsPart(int around) {
            char sign = ahead();
            if (sign != '!' && sign != '(') {
                return readsTest();
            }
            if (around >= MOST_AROUND) {
                return false;
            }
            at++;
            if (sign == '(') {
                return readsEither(around + 1) && takes(')');
            }
            if (!readsPart(around + 1)) {
                return false;
            }
            land.addCode(Land.NOT);
            return true;
        }

        private boolean readsTest() {
            int letter = "pkvcnr".indexOf(ahead());
            if (letter < 0) {
                return false;
            }
            at++;
            int sign = "<=>".indexOf(ahead());
            if (sign < 0) {
                return false;
            }
            at++;
            int number = takeNumber();
            if (number < 0) {
                return false;
            }
            land.addTest(letter, sign, number);
            return true;
        }
    }

    /** The World and what follows from it under a LAND. Each find.. needs what the ones ahead of it found. */
    private static final class Journeys {
        /** A STEP's odds are cut into as many shares: 1 to 6 names part them evenly. */
        private static final int SHARES = 60;
        private static final int MOST_ROADS = 20;
        /** Longer than any WAY. */
        private static final int ENDLESS = 1000000;

        private final World world = new World();
        private final int[] facts = new int[6];
        private final int[] sizes = new int[MOST_PLACES];
        private final int[] extra = new int[MOST_PLACES];
        private final int[] longs = new int[MOST_PLACES * MOST_PLACES];
        private final int[] ways = new int[MOST_PLACES * MOST_PLACES];
        private final int[] towards = new int[MOST_PLACES * MOST_PLACES];
        private final int[] steps = new int[MOST_PLACES * MOST_PLACES];
        private final long[] shares = new long[MOST_PLACES];
        private final long[] sharesThen = new long[MOST_PLACES];
        private int falseAt = NONE;
        private int falseNamed;
        private int falseInstead;
        private int walkedRoads;
        private int walkedLong;

        private void findSizes(Land land) {
            for (int p = 0; p < world.places; p++) {
                world.tellFacts(p, facts);
                sizes[p] = world.people[p] + land.together(OF_PLACES, facts);
                extra[p] = land.together(OF_ROADS, facts);
            }
        }

        private void findLongs() {
            for (int one = 0; one < world.places; one++) {
                for (int other = 0; other < world.places; other++) {
                    int miles = world.miles[index(one, other)];
                    longs[index(one, other)] = miles == 0 ? 0 : miles + extra[Math.min(one, other)];
                }
            }
        }

        private void findWays() {
            for (int one = 0; one < world.places; one++) {
                for (int other = 0; other < world.places; other++) {
                    int road = longs[index(one, other)];
                    ways[index(one, other)] = one == other ? 0 : road > 0 ? road : ENDLESS;
                }
            }
            for (int by = 0; by < world.places; by++) {
                for (int one = 0; one < world.places; one++) {
                    for (int other = 0; other < world.places; other++) {
                        int round = ways[index(one, by)] + ways[index(by, other)];
                        ways[index(one, other)] = Math.min(ways[index(one, other)], round);
                    }
                }
            }
        }

        private boolean leads(int one, int other) {
            return ways[index(one, other)] < ENDLESS;
        }

        private void findTowards() {
            for (int one = 0; one < world.places; one++) {
                for (int other = 0; other < world.places; other++) {
                    towards[index(one, other)] = firstOfWay(one, other);
                }
            }
        }

        private int firstOfWay(int one, int other) {
            if (one == other || !leads(one, other)) {
                return NOWHERE;
            }
            for (int p = 0; p < world.places; p++) {
                int road = longs[index(one, p)];
                if (road > 0 && road + ways[index(p, other)] == ways[index(one, other)]) {
                    return p;
                }
            }
            return NOWHERE;
        }

        private void findSteps() {
            for (int at = 0; at < world.places; at++) {
                for (int to = 0; to < world.places; to++) {
                    int aim = at == to ? NONE : aimAt(at, to);
                    if (at == falseAt && aim == falseNamed) {
                        aim = falseInstead;
                    }
                    steps[index(at, to)] = aim < 0 ? NOWHERE : towards[index(at, aim)];
                }
            }
        }

        /** TOWARD which PLACE one goes who wants to another one (-1: none). */
        private int aimAt(int at, int to) {
            if (world.names(at, to) || longs[index(at, to)] > 0) {
                return to;
            }
            if (world.kind[at] == CAPITAL && capitalOf(at) != at) {
                return capitalOf(at);
            }
            switch (world.kind[at]) {
                case PLACE: return leastNamed(at);
                case NEAR: return nearestNamed(at);
                case GREAT: return greatestNamed(at);
                case LAST: return lastNamed(at);
                case ASKING: return to;
                case CAPITAL: return greatestNamed(at);
                default: return world.v[at] > 4 ? lastNamed(at) : NONE;
            }
        }

        private int capitalOf(int at) {
            return world.places > 0 ? world.v[at] % world.places : at;
        }

        private int leastNamed(int at) {
            for (int p = 0; p < world.places; p++) {
                if (world.names(at, p)) {
                    return p;
                }
            }
            return NONE;
        }

        private int lastNamed(int at) {
            for (int p = world.places - 1; p >= 0; p--) {
                if (world.names(at, p)) {
                    return p;
                }
            }
            return NONE;
        }

        private int nearestNamed(int at) {
            int nearest = NONE;
            int least = ENDLESS;
            for (int p = 0; p < world.places; p++) {
                if (world.names(at, p) && ways[index(at, p)] < least) {
                    nearest = p;
                    least = ways[index(at, p)];
                }
            }
            return nearest;
        }

        private int greatestNamed(int at) {
            int greatest = NONE;
            int most = -1;
            for (int p = 0; p < world.places; p++) {
                if (world.names(at, p) && sizes[p] > most) {
                    greatest = p;
                    most = sizes[p];
                }
            }
            return greatest;
        }

        /** From now on whoever goes TOWARD the one named at the PLACE goes TOWARD the next one instead. */
        private void setFalseArm(int place, int named) {
            falseAt = place;
            falseNamed = named;
            falseInstead = behind(named);
            if (falseInstead == place) {
                falseInstead = behind(place);
            }
        }

        private void dropFalseArm() {
            falseAt = NONE;
        }

        private int behind(int p) {
            return p + 1 < world.places ? p + 1 : 0;
        }

        /** Goes a JOURNEY and answers where one stands at last: who is not there then is LOST. */
        private int walk(int from, int to) {
            int at = from;
            walkedRoads = 0;
            walkedLong = 0;
            for (int k = 0; k < MOST_ROADS && at != to; k++) {
                int step = steps[index(at, to)];
                if (step < 0) {
                    return at;
                }
                walkedRoads++;
                walkedLong += longs[index(at, step)];
                at = step;
            }
            return at;
        }

        private int lostTravellers() {
            int lost = 0;
            for (int t = 0; t < world.travellers; t++) {
                if (walk(world.from[t], world.to[t]) != world.to[t]) {
                    lost += world.many[t];
                }
            }
            return lost;
        }

        private int lostPairs() {
            int lost = 0;
            for (int from = 0; from < world.places; from++) {
                for (int to = 0; to < world.places; to++) {
                    if (walk(from, to) != to) {
                        lost++;
                    }
                }
            }
            return lost;
        }

        private int longestPair() {
            int pair = NOWHERE;
            int most = 0;
            for (int from = 0; from < world.places; from++) {
                for (int to = 0; to < world.places; to++) {
                    if (walk(from, to) == to && walkedLong > most) {
                        pair = 10 * from + to;
                        most = walkedLong;
                    }
                }
            }
            return pair;
        }

        private int allWays() {
            int all = 0;
            for (int one = 0; one < world.places; one++) {
                for (int other = 0; other < world.places; other++) {
                    all += leads(one, other) ? ways[index(one, other)] : 999;
                }
            }
            return all;
        }

        /** How many of all shares, SHARES for each STEP on, are at a PLACE after n STEPS. */
        private long sharesAt(int from, int to, int n) {
            Arrays.fill(shares, 0);
            shares[from] = 1;
            for (int k = 0; k < n; k++) {
                Arrays.fill(sharesThen, 0);
                for (int p = 0; p < world.places; p++) {
                    spread(p);
                }
                System.arraycopy(sharesThen, 0, shares, 0, MOST_PLACES);
            }
            return shares[to];
        }

        private void spread(int p) {
            int arms = Integer.bitCount(world.named[p]);
            if (arms == 0) {
                sharesThen[p] += shares[p] * SHARES;
                return;
            }
            for (int aim = 0; aim < world.places; aim++) {
                if (world.names(p, aim)) {
                    int step = towards[index(p, aim)];
                    sharesThen[step < 0 ? p : step] += shares[p] * (SHARES / arms);
                }
            }
        }
    }

    /** The ACTS of one PLACE at a time; each body is looked for from a KIND on upward. */
    private static final class Acts {
        private static final int KEPT = 20;
        private static final int DEEPEST = 40;

        private final int[] bodies = new int[KEPT];
        private int ran;
        private int number;
        private int kind;
        private int v;

        private void forget() {
            ran = 0;
        }

        private void standAt(int place, int itsKind, int itsV) {
            number = place;
            kind = itsKind;
            v = itsV;
        }

        private void begin(int body) {
            if (ran < KEPT) {
                bodies[ran] = body;
            }
            ran++;
        }

        private int points(int from, int x, int depth) {
            if (depth > DEEPEST) {
                return 0;
            }
            switch (from) {
                case GREAT:
                case CAPITAL:
                    begin(30);
                    return points(PLACE, x * 3, depth + 1);
                case ASKING:
                    begin(50);
                    return -points(NEAR, x, depth + 1);
                case DROWNED:
                    begin(71);
                    return points(LAST, x, depth + 1) ^ v;
                default:
                    begin(10);
                    return x + number;
            }
        }

        private int names(int from, int x, int depth) {
            if (depth > DEEPEST) {
                return 0;
            }
            switch (from) {
                case NEAR:
                    begin(20);
                    return names(PLACE, x, depth + 1) ^ 6;
                case ASKING:
                    begin(51);
                    return names(NEAR, x + 1, depth + 1);
                case DROWNED:
                    begin(70);
                    return names(LAST, x, depth + 1) + points(LAST, 2, depth + 1);
                default:
                    begin(11);
                    return points(kind, x, depth + 1) - v;
            }
        }

        private int tells(int from, int x, int depth) {
            if (depth > DEEPEST) {
                return 0;
            }
            switch (from) {
                case LAST:
                case DROWNED:
                    begin(40);
                    return tells(PLACE, x, depth + 1) + names(kind, 1, depth + 1);
                case CAPITAL:
                    begin(60);
                    return tells(GREAT, x - number, depth + 1);
                default:
                    begin(12);
                    return names(kind, x, depth + 1) * 2;
            }
        }
    }

    /** A TAPE: its row, or nothing (then its length is 0). Items are kept as longs, cut to what its sort holds. */
    private static final class Tape {
        /** The sorts that are cut; a row of sort 3 keeps its longs whole. */
        private static final int NO_ROW = -1, BYTES = 0, SHORTS = 1, INTS = 2, BOOLEANS = 4;
        private static final int MOST_ITEMS = 60;

        private int sort = NO_ROW;
        private int length;
        private final long[] items = new long[MOST_ITEMS];

        private void become(int itsSort, int n) {
            sort = itsSort;
            length = n;
            Arrays.fill(items, 0);
        }

        private boolean spans(int i, int n) {
            return i >= 0 && n >= 0 && i <= length - n;
        }

        private long asItem(long v) {
            switch (sort) {
                case BYTES: return (byte) v;
                case SHORTS: return (short) v;
                case INTS: return (int) v;
                case BOOLEANS: return v != 0 ? 1 : 0;
                default: return v;
            }
        }
    }
}
