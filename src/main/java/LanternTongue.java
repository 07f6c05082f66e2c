/** A mine of crossings, the parties that go about in it, and those who are lost there. */
public final class LanternTongue {
    public static final int NONE = -1, UNKNOWN = -101, OUTSIDE = -102, STATE = -103, FULL = -104;

    private static final int LEFT = 0, RIGHT = 1;
    private static final int MOST_LETTERS = 28, MOST_CROSSINGS = 6, MOST_PARTIES = 3, MOST_HEARD = 8;
    private static final int PAIRS = MOST_CROSSINGS * MOST_CROSSINGS;
    private static final int SETS = 1 << MOST_CROSSINGS;
    private static final int MOST_WALK = 60, SOUNDS = 3, COUNTS = 9;
    private static final int STEPS_OF_SILENCE = 2;

    private static final int DRIP = 1, SQUEEZE = 2, BATS = 3, WELL = 4, KINDS = 5;
    /** The place of a sign here is its kind. */
    private static final String SIGNS = ".dsbw";

    /** Stands for "there is none" where the least is looked for: above all that a mine can need. */
    private static final int FAR = 1000;

    private final Page page = new Page();
    private final Mine tunnels = new Mine();
    private final Ways ways = new Ways(tunnels);
    private final Camp camp = new Camp();
    private final Camp kept = new Camp();
    private boolean isKept;
    private int minesRead;

    public LanternTongue() {
    }

    // ---- the mine

    public int letter(int code) {
        if (code < 1 || code > 126) {
            return OUTSIDE;
        }
        if (page.size >= MOST_LETTERS) {
            return FULL;
        }
        page.write(code);
        return page.size;
    }

    public int blank() {
        int had = page.size;
        page.size = 0;
        return had;
    }

    public int fault() {
        return page.faultPlace();
    }

    public int mine() {
        if (!page.isMine()) {
            return STATE;
        }
        tunnels.readFrom(page);
        ways.workOut();
        camp.clear();
        isKept = false;
        minesRead++;
        page.size = 0;
        return tunnels.size;
    }

    public int crossing(int crossing, int what) {
        if (!tunnels.has(crossing)) {
            return UNKNOWN;
        }
        switch (what) {
            case 0:
                return tunnels.kindOf(crossing);
            case 1:
                return tunnels.leadsTo(crossing, LEFT);
            case 2:
                return tunnels.leadsTo(crossing, RIGHT);
            case 3:
                return tunnels.soundOf(crossing);
            case 4:
                return tunnels.oilTo(crossing);
            case 5:
                return camp.partiesAt(crossing);
            default:
                return OUTSIDE;
        }
    }

    public int as(int crossing, int kind) {
        if (!tunnels.has(crossing)) {
            return UNKNOWN;
        }
        if (kind < 0 || kind >= KINDS) {
            return OUTSIDE;
        }
        return isSuch(tunnels.kindOf(crossing), kind) ? crossing : NONE;
    }

    // ---- parties

    public int party(int crossing) {
        if (!tunnels.has(crossing)) {
            return UNKNOWN;
        }
        if (camp.parties >= MOST_PARTIES) {
            return FULL;
        }
        return camp.welcome(crossing, tunnels.oil);
    }

    public int about(int party, int what) {
        if (!camp.has(party)) {
            return UNKNOWN;
        }
        switch (what) {
            case 0:
                return cell(camp.places, party);
            case 1:
                return cell(camp.oils, party);
            case 2:
                return cell(camp.steps, party);
            case 3:
                return camp.stepsSinceSpoken(party);
            case 4:
                return camp.mayLook(party) ? 1 : 0;
            default:
                return OUTSIDE;
        }
    }

    public int step(int party, int way) {
        if (!camp.has(party)) {
            return UNKNOWN;
        }
        if (!isWay(way)) {
            return OUTSIDE;
        }
        int there = tunnels.leadsTo(cell(camp.places, party), way);
        int burnt = tunnels.oilTo(there);
        if (cell(camp.oils, party) < burnt) {
            return STATE;
        }
        camp.go(party, there, burnt);
        return there;
    }

    public int speak(int party) {
        if (!camp.has(party)) {
            return UNKNOWN;
        }
        put(camp.spokeAt, party, cell(camp.steps, party));
        return tunnels.soundOf(cell(camp.places, party));
    }

    public int look(int party) {
        if (!camp.has(party)) {
            return UNKNOWN;
        }
        if (!camp.mayLook(party)) {
            return STATE;
        }
        return tunnels.kindOf(cell(camp.places, party));
    }

    public int fill(int party) {
        if (!camp.has(party)) {
            return UNKNOWN;
        }
        int had = cell(camp.oils, party);
        put(camp.oils, party, tunnels.oil);
        return had;
    }

    // ---- ways

    public int way(int from, int to, int what) {
        if (!tunnels.has(from) || !tunnels.has(to)) {
            return UNKNOWN;
        }
        switch (what) {
            case 0:
                return orNone(ways.steps.get(from, to));
            case 1:
                return ways.firstOfWay(from, to);
            case 2:
                return orNone(ways.oils.get(from, to));
            default:
                return OUTSIDE;
        }
    }

    public int round(int from, int what) {
        if (!tunnels.has(from)) {
            return UNKNOWN;
        }
        switch (what) {
            case 0:
                return orNone(ways.stepsOfRound(1 << from, from));
            case 1:
                return ways.firstOfRound(from);
            default:
                return OUTSIDE;
        }
    }

    public int meet(int a, int b) {
        if (!camp.has(a) || !camp.has(b)) {
            return UNKNOWN;
        }
        return orNone(ways.meets.get(cell(camp.places, a), cell(camp.places, b)));
    }

    public int apart(int a, int b, int what) {
        if (!tunnels.has(a) || !tunnels.has(b)) {
            return UNKNOWN;
        }
        switch (what) {
            case 0:
                return orNone(ways.aparts.get(a, b));
            case 1:
                return ways.firstOfApart(a, b);
            default:
                return OUTSIDE;
        }
    }

    // ---- those who are lost

    public int hear(int way, int sound) {
        boolean wayIsAsTold = camp.heard == 0 ? way == NONE : isWay(way);
        if (!wayIsAsTold || sound < 0 || sound >= SOUNDS) {
            return OUTSIDE;
        }
        if (camp.heard >= MOST_HEARD) {
            return FULL;
        }
        camp.note(way, sound);
        return camp.heard;
    }

    public int forget() {
        int had = camp.heard;
        camp.heard = 0;
        return had;
    }

    public int where() {
        if (!tunnels.isThere()) {
            return STATE;
        }
        return tunnels.placesBy(camp);
    }

    public int next() {
        if (!tunnels.isThere()) {
            return STATE;
        }
        int places = tunnels.placesBy(camp);
        if (places == 0) {
            return NONE;
        }
        return tunnels.mostLeft(places, RIGHT) < tunnels.mostLeft(places, LEFT) ? RIGHT : LEFT;
    }

    public int walks(int from, int steps, int seed, int what) {
        if (!tunnels.has(from)) {
            return UNKNOWN;
        }
        if (steps < 1 || steps > MOST_WALK || seed < 0) {
            return OUTSIDE;
        }
        int at = from;
        int visited = 1 << from;
        int sounds = 0;
        int lastSeed = seed;
        for (int made = 0; made < steps; made++) {
            lastSeed = seedAfter(lastSeed);
            at = tunnels.leadsTo(at, drawOfTwo(lastSeed));
            visited |= 1 << at;
            sounds += tunnels.soundOf(at);
        }
        switch (what) {
            case 0:
                return Integer.bitCount(visited);
            case 1:
                return at;
            case 2:
                return sounds;
            case 3:
                return lastSeed;
            default:
                return OUTSIDE;
        }
    }

    // ---- what is told of all

    public int image() {
        if (!tunnels.isThere()) {
            return STATE;
        }
        kept.copyFrom(camp);
        isKept = true;
        return kept.parties;
    }

    public int restore() {
        if (!isKept) {
            return STATE;
        }
        camp.copyFrom(kept);
        return camp.parties;
    }

    public int count(int what) {
        switch (what) {
            case 0:
                return tunnels.size;
            case 1:
                return tunnels.oil;
            case 2:
                return camp.parties;
            case 3:
                return camp.sumOfAll(camp.oils);
            case 4:
                return camp.sumOfAll(camp.steps);
            case 5:
                return camp.thoseWhoMayLook();
            case 6:
                return camp.heard;
            case 7:
                return page.size;
            case 8:
                return minesRead;
            default:
                return OUTSIDE;
        }
    }

    public long digest() {
        long h = 977;
        for (int c = 0; c < tunnels.size; c++) {
            h = withCrossing(h, c);
        }
        for (int p = 0; p < camp.parties; p++) {
            h = withParty(h, p);
        }
        if (tunnels.isThere()) {
            h = with(with(h, where()), next());
        }
        for (int place = 0; place < page.size; place++) {
            h = with(h, page.codeAt(place));
        }
        for (int what = 0; what < COUNTS; what++) {
            h = with(h, count(what));
        }
        return h;
    }

    private long withCrossing(long before, int c) {
        long h = before;
        for (int what = 0; what <= 5; what++) {
            h = with(h, crossing(c, what));
        }
        h = with(with(h, round(c, 0)), round(c, 1));
        for (int to = 0; to < tunnels.size; to++) {
            h = with(with(with(h, way(c, to, 0)), way(c, to, 1)), way(c, to, 2));
            h = with(with(h, apart(c, to, 0)), apart(c, to, 1));
        }
        return h;
    }

    private long withParty(long before, int p) {
        long h = before;
        for (int what = 0; what <= 4; what++) {
            h = with(h, about(p, what));
        }
        for (int other = 0; other < camp.parties; other++) {
            h = with(h, meet(p, other));
        }
        return h;
    }

    private static long with(long h, int number) {
        return 31L * h + number;
    }

    private static int seedAfter(int seed) {
        return (int) ((1103515245L * seed + 12345L) % 2147483648L);
    }

    private static int drawOfTwo(int seed) {
        return seed / 65536 % 2;
    }

    private static boolean isWay(int way) {
        return way == LEFT || way == RIGHT;
    }

    private static boolean isSuch(int own, int kind) {
        return kind == 0 || kind == own || kind == DRIP && own == WELL;
    }

    private static int orNone(int least) {
        return least >= FAR ? NONE : least;
    }

    /** Rows are indexed here and in put() alone, so that no index goes untested. */
    private static int cell(int[] row, int index) {
        return index >= 0 && index < row.length ? row[index] : 0;
    }

    private static void put(int[] row, int index, int value) {
        if (index >= 0 && index < row.length) {
            row[index] = value;
        }
    }

    /**
     * The letters that are to become a mine. A crossing takes four of them, with the "," or ";"
     * behind it, so a letter's place tells what it must be.
     */
    private static final class Page {
        private final int[] codes = new int[MOST_LETTERS];
        private int size;

        void write(int code) {
            put(codes, size, code);
            size++;
        }

        int codeAt(int place) {
            return cell(codes, place);
        }

        int digitAt(int place) {
            return cell(codes, place) - '0';
        }

        boolean isMine() {
            return isClosed() && faultPlace() == size;
        }

        int faultPlace() {
            int misfit = firstMisfit();
            if (misfit < size || !isClosed()) {
                return misfit;
            }
            return firstLeadingNowhere();
        }

        /** Whether its last two letters are a ";" and what is behind it. */
        private boolean isClosed() {
            return codeAt(size - 2) == ';';
        }

        private int firstMisfit() {
            boolean closed = false;
            for (int place = 0; place < size; place++) {
                boolean fits = closed ? fitsAsOil(place) : fitsInCrossings(place);
                if (!fits) {
                    return place;
                }
                closed = closed || codeAt(place) == ';';
            }
            return size;
        }

        private boolean fitsAsOil(int place) {
            return codeAt(place - 1) == ';' && digitAt(place) >= 1 && digitAt(place) <= 9;
        }

        private boolean fitsInCrossings(int place) {
            int crossings = place / 4 + 1;
            switch (place % 4) {
                case 0:
                    return kindOfSign(codeAt(place)) != NONE;
                case 3:
                    return codeAt(place) == ',' && crossings < MOST_CROSSINGS
                            || codeAt(place) == ';' && crossings >= 2;
                default:
                    return digitAt(place) >= 0 && digitAt(place) < MOST_CROSSINGS;
            }
        }

        private int firstLeadingNowhere() {
            int crossings = size / 4;
            for (int place = 0; place < 4 * crossings; place++) {
                boolean leads = place % 4 == 1 || place % 4 == 2;
                if (leads && digitAt(place) >= crossings) {
                    return place;
                }
            }
            return size;
        }

        private static int kindOfSign(int code) {
            return SIGNS.indexOf((char) code);
        }
    }

    /** The crossings; of size 0 while no mine was read. Sets of crossings are bits. */
    private static final class Mine {
        private int size;
        private int oil;
        private final int[] kinds = new int[MOST_CROSSINGS];
        private final int[] lefts = new int[MOST_CROSSINGS];
        private final int[] rights = new int[MOST_CROSSINGS];

        /** The page must be a mine. */
        void readFrom(Page page) {
            size = page.size / 4;
            oil = page.digitAt(page.size - 1);
            for (int c = 0; c < size; c++) {
                put(kinds, c, Page.kindOfSign(page.codeAt(4 * c)));
                boolean turned = kindOf(c) == SQUEEZE;
                put(turned ? rights : lefts, c, page.digitAt(4 * c + 1));
                put(turned ? lefts : rights, c, page.digitAt(4 * c + 2));
            }
        }

        boolean isThere() {
            return size > 0;
        }

        boolean has(int c) {
            return c >= 0 && c < size;
        }

        int kindOf(int c) {
            return cell(kinds, c);
        }

        int leadsTo(int c, int way) {
            return cell(way == LEFT ? lefts : rights, c);
        }

        int soundOf(int c) {
            switch (kindOf(c)) {
                case DRIP:
                    return 1;
                case WELL:
                    return 2;
                default:
                    return 0;
            }
        }

        int oilTo(int c) {
            return kindOf(c) == BATS ? 3 : 1;
        }

        /** Where those can be who told what the camp has heard. */
        int placesBy(Camp camp) {
            int places = (1 << size) - 1;
            for (int i = 0; i < camp.heard; i++) {
                if (i > 0) {
                    places = placesAfter(places, cell(camp.heardWays, i));
                }
                places = placesOfSound(places, cell(camp.heardSounds, i));
            }
            return places;
        }

        /** How many places are left by a step, with the sound that leaves the most. */
        int mostLeft(int places, int way) {
            int after = placesAfter(places, way);
            int most = 0;
            for (int sound = 0; sound < SOUNDS; sound++) {
                most = Math.max(most, Integer.bitCount(placesOfSound(after, sound)));
            }
            return most;
        }

        private int placesAfter(int places, int way) {
            int after = 0;
            for (int c = 0; c < size; c++) {
                if (isIn(places, c)) {
                    after |= 1 << leadsTo(c, way);
                }
            }
            return after;
        }

        private int placesOfSound(int places, int sound) {
            int such = 0;
            for (int c = 0; c < size; c++) {
                if (isIn(places, c) && soundOf(c) == sound) {
                    such |= 1 << c;
                }
            }
            return such;
        }

        static boolean isIn(int places, int c) {
            return (places >> c & 1) == 1;
        }
    }

    /** A least number for each pair of crossings; FAR where there is none. */
    private static final class Table {
        private final int[] cells = new int[PAIRS];

        int get(int a, int b) {
            return cell(cells, a * MOST_CROSSINGS + b);
        }

        void set(int a, int b, int number) {
            put(cells, a * MOST_CROSSINGS + b, number);
        }

        /** Whether the number is less than what stood there. */
        boolean lower(int a, int b, int number) {
            if (number >= get(a, b)) {
                return false;
            }
            set(a, b, number);
            return true;
        }
    }

    /** What is least in a mine; worked out once when it is read, as nothing in it changes then. */
    private static final class Ways {
        private final Mine mine;
        private final Table steps = new Table();
        private final Table oils = new Table();
        private final Table meets = new Table();
        private final Table aparts = new Table();
        /** By the set of those come to, and where one is: how many steps to the rest. */
        private final int[] rounds = new int[SETS * MOST_CROSSINGS];

        Ways(Mine mine) {
            this.mine = mine;
        }

        void workOut() {
            start();
            boolean changed = true;
            // No least way passes a pair twice, so as many sweeps as pairs are enough.
            for (int sweep = 0; sweep < PAIRS && changed; sweep++) {
                changed = sweepPairs();
            }
            workOutRounds();
        }

        int firstOfWay(int from, int to) {
            return firstBy(steps.get(from, to),
                    steps.get(mine.leadsTo(from, LEFT), to),
                    steps.get(mine.leadsTo(from, RIGHT), to));
        }

        int firstOfApart(int a, int b) {
            return firstBy(aparts.get(a, b), apartAfter(a, b, LEFT), apartAfter(a, b, RIGHT));
        }

        int firstOfRound(int from) {
            return firstBy(stepsOfRound(1 << from, from), roundAfter(from, LEFT), roundAfter(from, RIGHT));
        }

        int stepsOfRound(int visited, int at) {
            return cell(rounds, visited * MOST_CROSSINGS + at);
        }

        private void start() {
            for (int a = 0; a < mine.size; a++) {
                for (int b = 0; b < mine.size; b++) {
                    int ifSame = a == b ? 0 : FAR;
                    steps.set(a, b, ifSame);
                    oils.set(a, b, ifSame);
                    meets.set(a, b, ifSame);
                    aparts.set(a, b, mine.soundOf(a) == mine.soundOf(b) ? FAR : 0);
                }
            }
        }

        private boolean sweepPairs() {
            boolean changed = false;
            for (int a = 0; a < mine.size; a++) {
                for (int b = 0; b < mine.size; b++) {
                    boolean lowered = lowerBy(a, b, LEFT);
                    lowered |= lowerBy(a, b, RIGHT);
                    changed |= lowered;
                }
            }
            return changed;
        }

        /** Lowers what stands for a and b to what a step of a makes of it. */
        private boolean lowerBy(int a, int b, int way) {
            int there = mine.leadsTo(a, way);
            boolean lowered = steps.lower(a, b, 1 + steps.get(there, b));
            lowered |= oils.lower(a, b, mine.oilTo(there) + oils.get(there, b));
            lowered |= meets.lower(a, b, 1 + meets.get(there, mine.leadsTo(b, LEFT)));
            lowered |= meets.lower(a, b, 1 + meets.get(there, mine.leadsTo(b, RIGHT)));
            lowered |= aparts.lower(a, b, 1 + apartAfter(a, b, way));
            return lowered;
        }

        private int apartAfter(int a, int b, int way) {
            return aparts.get(mine.leadsTo(a, way), mine.leadsTo(b, way));
        }

        private int roundAfter(int from, int way) {
            int there = mine.leadsTo(from, way);
            return stepsOfRound(1 << from | 1 << there, there);
        }

        /** From the full set down: a set with one more is a greater number, and known already. */
        private void workOutRounds() {
            int all = (1 << mine.size) - 1;
            for (int visited = all; visited > 0; visited--) {
                for (int at = 0; at < mine.size; at++) {
                    int least = visited == all ? 0 : leastOfRound(visited, at);
                    put(rounds, visited * MOST_CROSSINGS + at, least);
                }
            }
        }

        private int leastOfRound(int visited, int at) {
            int least = FAR;
            for (int c = 0; c < mine.size; c++) {
                if (!Mine.isIn(visited, c)) {
                    least = Math.min(least, steps.get(at, c) + stepsOfRound(visited | 1 << c, c));
                }
            }
            return least;
        }

        private static int firstBy(int least, int afterLeft, int afterRight) {
            if (least == 0 || least >= FAR) {
                return NONE;
            }
            return afterLeft <= afterRight ? LEFT : RIGHT;
        }
    }

    /** All that an image keeps: the parties, and what the lost ones heard. */
    private static final class Camp {
        private int parties;
        private final int[] places = new int[MOST_PARTIES];
        private final int[] oils = new int[MOST_PARTIES];
        private final int[] steps = new int[MOST_PARTIES];
        /** How many steps a party had made when it spoke last; NONE: it never did. */
        private final int[] spokeAt = new int[MOST_PARTIES];
        private int heard;
        private final int[] heardWays = new int[MOST_HEARD];
        private final int[] heardSounds = new int[MOST_HEARD];

        void clear() {
            parties = 0;
            heard = 0;
        }

        void copyFrom(Camp other) {
            parties = other.parties;
            heard = other.heard;
            copyRow(other.places, places);
            copyRow(other.oils, oils);
            copyRow(other.steps, steps);
            copyRow(other.spokeAt, spokeAt);
            copyRow(other.heardWays, heardWays);
            copyRow(other.heardSounds, heardSounds);
        }

        private static void copyRow(int[] from, int[] to) {
            for (int i = 0; i < to.length; i++) {
                put(to, i, cell(from, i));
            }
        }

        boolean has(int p) {
            return p >= 0 && p < parties;
        }

        int welcome(int place, int oil) {
            int p = parties;
            put(places, p, place);
            put(oils, p, oil);
            put(steps, p, 0);
            put(spokeAt, p, NONE);
            parties++;
            return p;
        }

        void go(int p, int there, int burnt) {
            put(places, p, there);
            put(oils, p, cell(oils, p) - burnt);
            put(steps, p, cell(steps, p) + 1);
        }

        void note(int way, int sound) {
            put(heardWays, heard, way);
            put(heardSounds, heard, sound);
            heard++;
        }

        int stepsSinceSpoken(int p) {
            int then = cell(spokeAt, p);
            return then == NONE ? NONE : cell(steps, p) - then;
        }

        boolean mayLook(int p) {
            int since = stepsSinceSpoken(p);
            return cell(oils, p) > 0 && (since == NONE || since >= STEPS_OF_SILENCE);
        }

        int partiesAt(int place) {
            int such = 0;
            for (int p = 0; p < parties; p++) {
                if (cell(places, p) == place) {
                    such |= 1 << p;
                }
            }
            return such;
        }

        int sumOfAll(int[] row) {
            int sum = 0;
            for (int p = 0; p < parties; p++) {
                sum += cell(row, p);
            }
            return sum;
        }

        int thoseWhoMayLook() {
            int such = 0;
            for (int p = 0; p < parties; p++) {
                if (mayLook(p)) {
                    such++;
                }
            }
            return such;
        }
    }
}
