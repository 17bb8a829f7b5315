import java.util.Arrays;

/** Who goes first at a crossing: the face of the document; the classes inside do the work. */
public final class FourPalms {
    public static final int NONE = -1;

    private static final int CROSSINGS = 6;
    private static final int LEAST_ROADS = 3;
    private static final int MOST_ROADS = 6;
    private static final int SLOTS = 2 * MOST_ROADS;
    private static final int LINKS = CROSSINGS * MOST_ROADS;
    private static final int RULES = 4;
    private static final int LANDS = 2;

    // what road() tells of a ROAD
    private static final int SIZE = 0;
    private static final int SLOPE = 1;
    private static final int SIGN = 2;
    private static final int LAND = 3;
    private static final int CHANCE = 4;
    private static final int ROAD_FACTS = 5;
    private static final int[] MOST_OF_FACT = {3, 1, 2, 1, 100};

    // what of() tells of a CART
    private static final int TO = 0;
    private static final int SORT = 1;
    private static final int LOAD = 2;
    private static final int RANK = 3;
    private static final int HABIT = 4;
    private static final int STAY = 5;
    private static final int CART_FACTS = 6;
    private static final int MOST_SORT = 3;
    private static final int MOST_LOAD = 9;
    private static final int MOST_RANK = 99;
    private static final int KNOWS = 0;
    private static final int WAVES = 1;
    private static final int MOST_HABIT = 2;

    // what days() and count() tell
    private static final int GONE = 0;
    private static final int WAIT_SUM = 1;
    private static final int LONGEST = 2;
    private static final int MEAN = 3;
    private static final int IN_ROW = 4;
    private static final int ROAD_COUNTS = 3;
    private static final int TICKS = 0;
    private static final int CRASHES = 1;
    private static final int STOOD = 2;
    private static final int GONE_IN_ALL = 3;
    private static final int COUNTS = 3;
    private static final int MOST_IN_ROW = 20;
    private static final int MOST_TICKS = 60;

    // what is held of a LINK
    private static final int LINK_TO = 0;
    private static final int LINK_IN = 1;
    private static final int LINK_ROOM = 2;
    private static final int LINK_FACTS = 3;
    private static final int MOST_ROOM = 9;

    // how first can be MEANT
    private static final int RANK_LESS = 0;
    private static final int STAY_MORE = 1;
    private static final int NOBODY = 2;
    private static final int RANK_NOT_MORE = 3;

    // tokens of a rule's text; those asked of two carts come first and are operations, too
    private static final String KEYWORDS =
        "right left  size  osize turn  oturn load  oload slope oslopesort  osort sign  osign first roads wait  go    when  or    and   not   ";
    private static final int KEYWORD_WIDTH = 6;
    private static final int KEYWORD_COUNT = 22;
    private static final int RIGHT_IS = 0;
    private static final int LEFT_IS = 1;
    private static final int SIZE_IS = 2;
    private static final int TURN_IS = 4;
    private static final int LOAD_IS = 6;
    private static final int SLOPE_IS = 8;
    private static final int SORT_IS = 10;
    private static final int SIGN_IS = 12;
    private static final int FIRST_IS = 14;
    private static final int ROADS_IS = 15;
    private static final int ASKED = 16;
    private static final int WAIT = 16;
    private static final int GO = 17;
    private static final int WHEN = 18;
    private static final int OR = 19;
    private static final int AND = 20;
    private static final int NOT = 21;
    private static final String MARKS = ";+-*/()<=>";
    private static final int SEMICOLON = 22;
    private static final int PLUS = 23;
    private static final int MINUS = 24;
    private static final int TIMES = 25;
    private static final int PART = 26;
    private static final int OPEN = 27;
    private static final int CLOSE = 28;
    private static final int LESS = 29;
    private static final int SAME = 30;
    private static final int MORE = 31;
    private static final int NUMBER = 32;
    private static final int TEXT_END = 33;
    private static final int NO_TOKEN = 34;

    // an operation from here on puts a number down; one below 0 parts by a number
    private static final int NUMBERS = 100;
    private static final int MOST_DIGITS = 4;
    private static final int MOST_TEXT = 400;
    private static final int MOST_LINES = 16;
    private static final int MOST_OPEN = 8;
    private static final int STACK = 64;
    private static final int FED = 20;

    private static final int MISPLACED = 1;
    private static final int PART_BY_NOTHING = 2;
    private static final int TOO_MANY = 3;

    // where in a line the reader is
    private static final int AT_LINE = 0;
    private static final int AT_WHEN = 1;
    private static final int AT_CONDITION = 2;
    private static final int AT_OPERAND = 3;
    private static final int AT_DIVISOR = 4;
    private static final int BEHIND_OPERAND = 5;
    private static final int BEHIND_CONDITION = 6;

    // by what those that can come wait
    private static final int BY_RULE = 0;
    private static final int BY_LANDS = 1;
    private static final int BY_SIGNS = 2;
    private static final int BY_WORDS = 3;
    private static final int WORDS = 8;
    private static final int TOLD_WORDS = 16;
    private static final int WORD_BASE = 17;
    private static final int MOST_WORDING = 288;
    private static final int MOST_ORDERS = 24;

    private static final int FAR = 1000000;

    private final World world;
    private final World kept;
    private final Reader reader;
    private final Standing standing;
    private final Coming coming;
    private final Days calendar;
    private final Rings rings;
    private boolean imaged;

    public FourPalms() {
        World made = new World();
        Pair pair = new Pair();
        Standing carts = new Standing(made, pair);
        world = made;
        kept = new World();
        reader = new Reader();
        standing = carts;
        coming = new Coming(made, pair);
        calendar = new Days(made, carts);
        rings = new Rings(made);
        imaged = false;
    }

    public int state(int v) {
        int before = world.draws;
        world.draws = v;
        return before;
    }

    public boolean crossing(int c, int n) {
        Crossing k = crossingAt(c);
        if (k == null || n < LEAST_ROADS || n > MOST_ROADS) {
            return false;
        }
        k.makeNew(n);
        for (Crossing other : world.crossings) {
            other.forgetLinksTo(c);
        }
        return true;
    }

    public boolean road(int c, int road, int what, int v) {
        Crossing k = crossingAt(c);
        if (k == null || !k.hasRoad(road) || !within(what, ROAD_FACTS - 1)) {
            return false;
        }
        if (!within(v, MOST_OF_FACT[what])) {
            return false;
        }
        k.facts[what * MOST_ROADS + road] = v;
        return true;
    }

    public boolean land(int k, int rule) {
        if (!within(k, LANDS - 1) || !within(rule, RULES - 1)) {
            return false;
        }
        world.landRules[k] = rule;
        return true;
    }

    public int fight(int c, int a, int b, int x, int y) {
        Crossing k = crossingAt(c);
        if (k == null || !k.isWay(a, b)) {
            return NONE;
        }
        if (x == NONE) {
            return turnOf(k.roads, a, b);
        }
        if (!k.isWay(x, y) || a == x) {
            return NONE;
        }
        return waysFight(a, b, x, y) ? 1 : 0;
    }

    public boolean cart(int c, int road, int to, int sort, int load, int rank, int habit) {
        Crossing k = crossingAt(c);
        if (k == null || !k.hasRoad(road)) {
            return false;
        }
        if (to == NONE) {
            k.carts[TO * MOST_ROADS + road] = NONE;
            return true;
        }
        if (!k.isWay(road, to) || !within(sort, MOST_SORT) || !within(load, MOST_LOAD)) {
            return false;
        }
        if (!within(rank, MOST_RANK) || !within(habit, MOST_HABIT)) {
            return false;
        }
        k.putCart(road, goodsOf(to, sort, load), rank, habit);
        return true;
    }

    public int of(int c, int road, int what) {
        Crossing k = crossingAt(c);
        if (k == null || !k.hasRoad(road) || !within(what, CART_FACTS - 1)) {
            return NONE - 1;
        }
        return k.hasCart(road) ? k.carts[what * MOST_ROADS + road] : NONE;
    }

    public int feed(int a, int b, int c, int d, int e) {
        if (reader.length + FED > MOST_TEXT) {
            return NONE;
        }
        reader.take(a);
        reader.take(b);
        reader.take(c);
        reader.take(d);
        reader.take(e);
        return reader.length;
    }

    public boolean end(int n) {
        if (n < 0 || n > reader.length) {
            return false;
        }
        reader.length = n;
        return true;
    }

    public int rule(int k) {
        if (!within(k, RULES - 1)) {
            reader.giveUp();
            return NONE;
        }
        if (!reader.reads()) {
            return NONE;
        }
        world.rules[k].copyFrom(reader.draft);
        return world.rules[k].lines;
    }

    public int fault(int what) {
        if (what == 0) {
            return reader.fault;
        }
        return what == 1 ? reader.faultPlace : NONE;
    }

    public int waits(int c, int road, int other) {
        Crossing k = crossingAt(c);
        if (k == null || road == other || !k.hasCart(road) || !k.hasCart(other)) {
            return NONE;
        }
        return standing.waitsFor(k, road, other, RANK_LESS) ? 1 : 0;
    }

    public int now(int c, int what) {
        Crossing k = crossingAt(c);
        if (k == null || !within(what, 3)) {
            return NONE;
        }
        int there = k.cartSet();
        if (what == 3) {
            return there;
        }
        int goers = standing.goers(k, there, RANK_LESS);
        if (what == 0) {
            return goers;
        }
        if (what == 1) {
            return there != 0 && goers == 0 ? 1 : 0;
        }
        return k.firstFighting(goers) != NONE ? 1 : 0;
    }

    public int circle(int c, int what) {
        Crossing k = crossingAt(c);
        if (k == null || what != 0 && what < 10) {
            return NONE;
        }
        standing.walkCircle(k);
        if (what == 0) {
            return standing.circleLength;
        }
        int i = what - 10;
        return i < standing.circleLength ? standing.circleRoad(i) : NONE;
    }

    public int meant(int c, int how) {
        Crossing k = crossingAt(c);
        if (k == null || !within(how, RANK_NOT_MORE)) {
            return NONE;
        }
        return standing.goers(k, k.cartSet(), how);
    }

    public int cleared(int c, int what) {
        Crossing k = crossingAt(c);
        if (k == null || !within(what, 2)) {
            return NONE;
        }
        standing.clear(k);
        if (what == 0) {
            return standing.clearTimes;
        }
        return what == 1 ? standing.clearLeft : standing.clearFights;
    }

    public int judge(int c, int set) {
        Crossing k = crossingAt(c);
        if (k == null || set <= 0 || set >= 1 << k.roads) {
            return NONE - 1;
        }
        int unfit = set & ~standing.goers(k, k.cartSet(), RANK_LESS);
        if (unfit != 0) {
            return leastOf(unfit);
        }
        int wrong = k.firstFighting(set);
        if (wrong == NONE) {
            k.takeAway(set);
        }
        return wrong;
    }

    public int comer(int c, int road, int to, int sort, int load) {
        Crossing k = crossingAt(c);
        if (k == null || !k.hasRoad(road)) {
            return NONE;
        }
        if (to == NONE) {
            k.comerCount[road] = 0;
            return 0;
        }
        if (!k.isWay(road, to) || !within(sort, MOST_SORT) || !within(load, MOST_LOAD)) {
            return NONE;
        }
        int many = k.comerCount[road];
        if (many > 1) {
            return NONE;
        }
        k.comers[2 * road + many] = goodsOf(to, sort, load);
        k.comerCount[road] = many + 1;
        return many + 1;
    }

    public int ever(int c, int what) {
        Crossing k = crossingAt(c);
        if (k == null || !within(what, 4)) {
            return NONE;
        }
        coming.askByRule(k, NONE);
        if (what == 0) {
            return coming.withCarts();
        }
        coming.survey();
        if (what == 1) {
            return coming.stuck;
        }
        if (what == 2) {
            return coming.both;
        }
        int slots = what == 3 ? coming.stuckSlots : coming.bothSlots;
        return slots == 0 ? NONE : Integer.bitCount(slots);
    }

    public boolean lay(int c, int which) {
        Crossing k = crossingAt(c);
        if (k == null || !within(which, 1)) {
            return false;
        }
        coming.askByRule(k, NONE);
        coming.survey();
        int slots = which == 0 ? coming.stuckSlots : coming.bothSlots;
        int order = which == 0 ? coming.stuckOrder : coming.bothOrder;
        if (slots == 0) {
            return false;
        }
        coming.putDown(slots, order);
        return true;
    }

    public int odds(int c, int road) {
        Crossing k = crossingAt(c);
        if (k == null || !k.hasRoad(road)) {
            return NONE - 1;
        }
        if (k.comerCount[road] == 0) {
            return NONE;
        }
        coming.askByRule(k, NONE);
        return coming.oddsOf(road);
    }

    public int mutual(int c) {
        Crossing k = crossingAt(c);
        if (k == null) {
            return NONE;
        }
        coming.askByRule(k, NONE);
        return coming.mutualCouples();
    }

    public int used(int rule, int c) {
        Crossing k = crossingAt(c);
        if (k == null || !within(rule, RULES - 1)) {
            return NONE;
        }
        return coming.usedLines(k, world.rules[rule]);
    }

    public int holds(int rule) {
        if (!within(rule, RULES - 1)) {
            return NONE;
        }
        int held = 0;
        for (int c = 0; c < CROSSINGS; c++) {
            coming.askByRule(world.crossings[c], rule);
            if (!coming.isEverBad()) {
                held |= 1 << c;
            }
        }
        return held;
    }

    public int starve(int c) {
        Crossing k = crossingAt(c);
        if (k == null) {
            return NONE;
        }
        coming.askByRule(k, NONE);
        return coming.starving();
    }

    public int shortest(int crossings, int what) {
        if (!isCrossingSet(crossings) || !within(what, 2)) {
            return NONE;
        }
        coming.tryWordings(crossings, 1, MOST_WORDING);
        int least = coming.leastSound();
        if (least == NONE || what == 0) {
            return least;
        }
        int words = least > TOLD_WORDS ? 2 : 1;
        return what == 1 ? words : coming.soundWith(words) - 1;
    }

    public int sound(int crossings, int wording) {
        if (!isCrossingSet(crossings) || !isWording(wording)) {
            return NONE;
        }
        coming.tryWordings(crossings, wording, wording);
        return coming.isSound(wording) ? 1 : 0;
    }

    public int signs(int c) {
        Crossing k = crossingAt(c);
        return k == null ? NONE : coming.fewestSigns(k);
    }

    public int border(int c, int what) {
        Crossing k = crossingAt(c);
        if (k == null || !within(what, 1)) {
            return NONE;
        }
        coming.tryBorders(k);
        return what == 0 ? coming.badBorders : coming.leastBorder;
    }

    public int run(int c, int n) {
        Crossing k = crossingAt(c);
        if (k == null || n < 1 || n > MOST_TICKS) {
            return NONE;
        }
        int went = 0;
        for (int tick = 0; tick < n; tick++) {
            went += calendar.tick(k);
        }
        return went;
    }

    public int days(int c, int road, int what) {
        Crossing k = crossingAt(c);
        if (k == null || !k.hasRoad(road) || !within(what, IN_ROW)) {
            return NONE - 1;
        }
        if (what == IN_ROW) {
            return k.rowLength[road];
        }
        if (what != MEAN) {
            return k.roadCounts[what * MOST_ROADS + road];
        }
        int gone = k.roadCounts[GONE * MOST_ROADS + road];
        return gone > 0 ? 100 * k.roadCounts[WAIT_SUM * MOST_ROADS + road] / gone : NONE;
    }

    public int count(int c, int what) {
        Crossing k = crossingAt(c);
        if (k == null || !within(what, GONE_IN_ALL)) {
            return NONE;
        }
        if (what != GONE_IN_ALL) {
            return k.counts[what];
        }
        int gone = 0;
        for (int road = 0; road < k.roads; road++) {
            gone += k.roadCounts[GONE * MOST_ROADS + road];
        }
        return gone;
    }

    public boolean link(int c, int road, int to, int in, int room) {
        Crossing k = crossingAt(c);
        if (k == null || !k.hasRoad(road)) {
            return false;
        }
        if (to == NONE) {
            k.links[LINK_TO * MOST_ROADS + road] = NONE;
            return true;
        }
        Crossing next = crossingAt(to);
        if (next == null || to == c || !next.hasRoad(in) || !within(room, MOST_ROOM)) {
            return false;
        }
        k.links[LINK_TO * MOST_ROADS + road] = to;
        k.links[LINK_IN * MOST_ROADS + road] = in;
        k.links[LINK_ROOM * MOST_ROADS + road] = room;
        return true;
    }

    public int ring(int what) {
        if (what != 0 && what != 1 && what < 10) {
            return NONE;
        }
        rings.seek();
        if (rings.length == 0) {
            return NONE;
        }
        if (what == 0) {
            return rings.fills;
        }
        if (what == 1) {
            return rings.length;
        }
        int i = what - 10;
        return i < rings.length ? rings.row[i] : NONE;
    }

    public boolean image(boolean taken) {
        if (taken) {
            kept.copyFrom(world);
            imaged = true;
            return true;
        }
        if (imaged) {
            world.copyFrom(kept);
        }
        return imaged;
    }

    public int look(int what) {
        switch (what) {
            case 0:
                return world.linesInAll();
            case 1:
                return world.linksInAll();
            case 2:
                return imaged ? 1 : 0;
            case 3:
                return world.draws;
            default:
                return NONE;
        }
    }

    private Crossing crossingAt(int c) {
        return within(c, CROSSINGS - 1) ? world.crossings[c] : null;
    }

    private static boolean within(int v, int most) {
        return v >= 0 && v <= most;
    }

    /** The least road of a set. */
    private static int leastOf(int set) {
        for (int road = 0; road < MOST_ROADS; road++) {
            if ((set >> road & 1) != 0) {
                return road;
            }
        }
        return NONE;
    }

    private static boolean isCrossingSet(int set) {
        return set > 0 && set < 1 << CROSSINGS;
    }

    private static boolean isWording(int wording) {
        if (wording < 1 || wording > MOST_WORDING) {
            return false;
        }
        return wording <= TOLD_WORDS || wording % WORD_BASE != 0;
    }

    private static int goodsOf(int to, int sort, int load) {
        return (to * (MOST_SORT + 1) + sort) * (MOST_LOAD + 1) + load;
    }

    private static int loadIn(int goods) {
        return goods % (MOST_LOAD + 1);
    }

    private static int sortIn(int goods) {
        return goods / (MOST_LOAD + 1) % (MOST_SORT + 1);
    }

    private static int toIn(int goods) {
        return goods / ((MOST_LOAD + 1) * (MOST_SORT + 1));
    }

    private static int turnOf(int roads, int a, int b) {
        int round = b < a ? b - a + roads : b - a;
        if (round == 1) {
            return 1;
        }
        return round == roads - 1 ? 2 : 0;
    }

    private static boolean waysFight(int a, int b, int x, int y) {
        if (b == y) {
            return true;
        }
        int lesser = Math.min(2 * a + 1, 2 * b);
        int greater = Math.max(2 * a + 1, 2 * b);
        boolean begins = 2 * x + 1 > lesser && 2 * x + 1 < greater;
        boolean ends = 2 * y > lesser && 2 * y < greater;
        return begins != ends;
    }

    /** All that the image holds. */
    private static final class World {
        int draws = 0;
        final int[] landRules = {0, 1};
        final Rule[] rules = new Rule[RULES];
        final Crossing[] crossings = new Crossing[CROSSINGS];

        World() {
            for (int k = 0; k < RULES; k++) {
                rules[k] = new Rule();
            }
            for (int c = 0; c < CROSSINGS; c++) {
                crossings[c] = new Crossing();
            }
        }

        void copyFrom(World from) {
            draws = from.draws;
            System.arraycopy(from.landRules, 0, landRules, 0, LANDS);
            for (int k = 0; k < RULES; k++) {
                rules[k].copyFrom(from.rules[k]);
            }
            for (int c = 0; c < CROSSINGS; c++) {
                crossings[c].copyFrom(from.crossings[c]);
            }
        }

        int drawOf(int m) {
            draws = draws * 1664525 + 1013904223;
            return m > 0 ? (draws >>> 8) % m : 0;
        }

        int linesInAll() {
            int lines = 0;
            for (Rule rule : rules) {
                lines += rule.lines;
            }
            return lines;
        }

        int linksInAll() {
            int links = 0;
            for (Crossing k : crossings) {
                links += k.linksFrom();
            }
            return links;
        }
    }

    /** One crossing; what is held of each road stands at MOST_ROADS times what + road. */
    private static final class Crossing {
        int roads;
        final int[] facts = new int[ROAD_FACTS * MOST_ROADS];
        final int[] carts = new int[CART_FACTS * MOST_ROADS];
        final int[] comers = new int[SLOTS];
        final int[] comerCount = new int[MOST_ROADS];
        final int[] rows = new int[MOST_IN_ROW * MOST_ROADS];
        final int[] rowLength = new int[MOST_ROADS];
        final int[] roadCounts = new int[ROAD_COUNTS * MOST_ROADS];
        final int[] counts = new int[COUNTS];
        final int[] links = new int[LINK_FACTS * MOST_ROADS];

        Crossing() {
            makeNew(4);
        }

        void makeNew(int n) {
            roads = n;
            Arrays.fill(facts, 0);
            Arrays.fill(carts, NONE);
            Arrays.fill(comerCount, 0);
            Arrays.fill(rowLength, 0);
            Arrays.fill(roadCounts, 0);
            Arrays.fill(counts, 0);
            Arrays.fill(links, NONE);
        }

        void copyFrom(Crossing from) {
            roads = from.roads;
            System.arraycopy(from.facts, 0, facts, 0, facts.length);
            System.arraycopy(from.carts, 0, carts, 0, carts.length);
            System.arraycopy(from.comers, 0, comers, 0, comers.length);
            System.arraycopy(from.comerCount, 0, comerCount, 0, comerCount.length);
            System.arraycopy(from.rows, 0, rows, 0, rows.length);
            System.arraycopy(from.rowLength, 0, rowLength, 0, rowLength.length);
            System.arraycopy(from.roadCounts, 0, roadCounts, 0, roadCounts.length);
            System.arraycopy(from.counts, 0, counts, 0, counts.length);
            System.arraycopy(from.links, 0, links, 0, links.length);
        }

        boolean hasRoad(int road) {
            return road >= 0 && road < roads;
        }

        boolean isWay(int from, int to) {
            return hasRoad(from) && hasRoad(to) && from != to;
        }

        boolean hasCart(int road) {
            return hasRoad(road) && carts[TO * MOST_ROADS + road] != NONE;
        }

        int fact(int what, int road) {
            return facts[what * MOST_ROADS + road];
        }

        int goods(int road) {
            return goodsOf(carts[TO * MOST_ROADS + road], carts[SORT * MOST_ROADS + road],
                carts[LOAD * MOST_ROADS + road]);
        }

        void putCart(int road, int goods, int rank, int habit) {
            carts[TO * MOST_ROADS + road] = toIn(goods);
            carts[SORT * MOST_ROADS + road] = sortIn(goods);
            carts[LOAD * MOST_ROADS + road] = loadIn(goods);
            carts[RANK * MOST_ROADS + road] = rank;
            carts[HABIT * MOST_ROADS + road] = habit;
            carts[STAY * MOST_ROADS + road] = 0;
        }

        int cartSet() {
            int set = 0;
            for (int road = 0; road < roads; road++) {
                if (hasCart(road)) {
                    set |= 1 << road;
                }
            }
            return set;
        }

        void takeAway(int set) {
            for (int road = 0; road < roads; road++) {
                if ((set >> road & 1) != 0) {
                    carts[TO * MOST_ROADS + road] = NONE;
                }
            }
        }

        boolean cartsFight(int x, int y) {
            return waysFight(x, carts[TO * MOST_ROADS + x], y, carts[TO * MOST_ROADS + y]);
        }

        /** The first road of a set of carts whose way fights with that of a greater one of it. */
        int firstFighting(int set) {
            for (int x = 0; x < roads; x++) {
                for (int y = x + 1; y < roads; y++) {
                    if ((set >> x & set >> y & 1) != 0 && cartsFight(x, y)) {
                        return x;
                    }
                }
            }
            return NONE;
        }

        void joinRow(int road, int goods) {
            int many = rowLength[road];
            if (many < MOST_IN_ROW) {
                rows[road * MOST_IN_ROW + many] = goods;
                rowLength[road] = many + 1;
            }
        }

        int leaveRow(int road) {
            int start = road * MOST_IN_ROW;
            int goods = rows[start];
            int left = rowLength[road] - 1;
            if (left >= 0) {
                System.arraycopy(rows, start + 1, rows, start, left);
                rowLength[road] = left;
            }
            return goods;
        }

        boolean leads(int road) {
            return links[LINK_TO * MOST_ROADS + road] != NONE;
        }

        int linksFrom() {
            int many = 0;
            for (int road = 0; road < roads; road++) {
                if (leads(road)) {
                    many++;
                }
            }
            return many;
        }

        void forgetLinksTo(int c) {
            for (int road = 0; road < roads; road++) {
                if (links[LINK_TO * MOST_ROADS + road] == c) {
                    links[LINK_TO * MOST_ROADS + road] = NONE;
                }
            }
        }
    }

    /** A rule of giving way: each line's condition as operations in the order in which they are done. */
    private static final class Rule {
        int lines = 0;
        int size = 0;
        // the lines that tell to wait, as a set
        int waiting = 0;
        final int[] starts = new int[MOST_LINES + 1];
        final int[] operations = new int[MOST_TEXT];

        void empty() {
            lines = 0;
            size = 0;
            waiting = 0;
            starts[0] = 0;
        }

        void copyFrom(Rule from) {
            lines = from.lines;
            size = from.size;
            waiting = from.waiting;
            System.arraycopy(from.starts, 0, starts, 0, starts.length);
            System.arraycopy(from.operations, 0, operations, 0, operations.length);
        }

        void add(int operation) {
            if (size < MOST_TEXT) {
                operations[size] = operation;
                size++;
            }
        }

        void closeLine(boolean wait) {
            if (lines < MOST_LINES) {
                waiting |= wait ? 1 << lines : 0;
                lines++;
                starts[lines] = size;
            }
        }

        /** The first line that is so for what is asked of two carts. */
        int firstLine(Pair pair) {
            for (int line = 0; line < lines; line++) {
                if (starts[line] == starts[line + 1] || isSo(line, pair.asked, pair.stack)) {
                    return line;
                }
            }
            return NONE;
        }

        boolean isWait(int line) {
            return line >= 0 && line < lines && (waiting >> line & 1) != 0;
        }

        private boolean isSo(int line, int[] asked, int[] stack) {
            int top = 0;
            for (int i = starts[line]; i < starts[line + 1]; i++) {
                int operation = operations[i];
                if (operation >= NUMBERS || operation >= 0 && operation < ASKED) {
                    if (top < STACK) {
                        stack[top] = operation >= NUMBERS ? operation - NUMBERS : asked[operation];
                        top++;
                    }
                } else if (operation < 0) {
                    if (top > 0) {
                        stack[top - 1] = stack[top - 1] / -operation;
                    }
                } else if (operation == NOT) {
                    if (top > 0) {
                        stack[top - 1] = 1 - stack[top - 1];
                    }
                } else if (top > 1) {
                    top--;
                    stack[top - 1] = joined(operation, stack[top - 1], stack[top]);
                }
            }
            return top > 0 && stack[top - 1] != 0;
        }

        private static int joined(int operation, int a, int b) {
            switch (operation) {
                case OR:
                    return a | b;
                case AND:
                    return a & b;
                case PLUS:
                    return a + b;
                case MINUS:
                    return a - b;
                case TIMES:
                    return a * b;
                case LESS:
                    return a < b ? 1 : 0;
                case SAME:
                    return a == b ? 1 : 0;
                default:
                    return a > b ? 1 : 0;
            }
        }
    }

    /** The tape, and the reader that makes a rule of it; operators wait on a stack till their right side is read. */
    private static final class Reader {
        final int[] tape = new int[MOST_TEXT];
        int length = 0;
        int fault = 0;
        int faultPlace = NONE;
        final Rule draft = new Rule();
        private final int[] pending = new int[STACK];
        private int pendingCount = 0;
        private int opened = 0;
        private boolean compared = false;
        private boolean lineWaits = false;
        private int mode = AT_LINE;
        private int at = 0;
        private int token = TEXT_END;
        private int place = 0;
        private int number = 0;

        void take(int word) {
            for (int shift = 24; shift >= 0; shift -= 8) {
                if (length < MOST_TEXT) {
                    tape[length] = word >>> shift & 255;
                    length++;
                }
            }
        }

        void giveUp() {
            length = 0;
            fault = 0;
            faultPlace = NONE;
        }

        /** Makes the draft of the tape, which is empty then; false with a fault. */
        boolean reads() {
            draft.empty();
            pendingCount = 0;
            opened = 0;
            mode = AT_LINE;
            at = 0;
            fault = 0;
            faultPlace = NONE;
            for (int i = 0; i <= length; i++) {
                scan();
                if (token == TEXT_END && mode == AT_LINE) {
                    break;
                }
                fault = step();
                if (fault != 0) {
                    faultPlace = place;
                    break;
                }
            }
            length = 0;
            return fault == 0;
        }

        private void scan() {
            while (at < length && (tape[at] == 32 || tape[at] == 10)) {
                at++;
            }
            place = at;
            if (at >= length) {
                token = TEXT_END;
            } else if (isLetter(tape[at])) {
                while (at < length && isLetter(tape[at])) {
                    at++;
                }
                token = keyword();
            } else if (isDigit(tape[at])) {
                number = 0;
                while (at < length && isDigit(tape[at])) {
                    number = number * 10 + tape[at] - '0';
                    at++;
                }
                token = at - place <= MOST_DIGITS ? NUMBER : NO_TOKEN;
            } else {
                int mark = MARKS.indexOf((char) tape[at]);
                token = mark < 0 ? NO_TOKEN : SEMICOLON + mark;
                at++;
            }
        }

        private static boolean isLetter(int sign) {
            return sign >= 'a' && sign <= 'z' || sign >= 'A' && sign <= 'Z';
        }

        private static boolean isDigit(int sign) {
            return sign >= '0' && sign <= '9';
        }

        private int keyword() {
            if (at - place <= KEYWORD_WIDTH) {
                for (int i = 0; i < KEYWORD_COUNT; i++) {
                    if (isKeyword(i * KEYWORD_WIDTH)) {
                        return i;
                    }
                }
            }
            return NO_TOKEN;
        }

        private boolean isKeyword(int start) {
            for (int i = 0; i < KEYWORD_WIDTH; i++) {
                int sign = place + i < at ? tape[place + i] : ' ';
                if (KEYWORDS.charAt(start + i) != sign) {
                    return false;
                }
            }
            return true;
        }

        /** Puts the token into the draft; answers the fault. */
        private int step() {
            switch (mode) {
                case AT_LINE:
                    return beginLine();
                case AT_WHEN:
                    if (token == WHEN) {
                        mode = AT_CONDITION;
                        return 0;
                    }
                    return token == SEMICOLON ? finishLine() : MISPLACED;
                case AT_CONDITION:
                    return beginCondition();
                case AT_OPERAND:
                    return operand();
                case AT_DIVISOR:
                    return divisor();
                default:
                    return token >= PLUS && token <= PART || token >= LESS && token <= MORE
                        ? operator() : joiner();
            }
        }

        private int beginLine() {
            if (token != WAIT && token != GO) {
                return MISPLACED;
            }
            if (draft.lines >= MOST_LINES) {
                return TOO_MANY;
            }
            lineWaits = token == WAIT;
            mode = AT_WHEN;
            return 0;
        }

        private int finishLine() {
            release(1);
            if (pendingCount > 0) {
                return MISPLACED;
            }
            draft.closeLine(lineWaits);
            mode = AT_LINE;
            return 0;
        }

        private int beginCondition() {
            if (token != NOT && token != OPEN) {
                compared = false;
                return operand();
            }
            if (opened >= MOST_OPEN) {
                return TOO_MANY;
            }
            opened++;
            hold(token);
            return 0;
        }

        private int operand() {
            if (token == NUMBER) {
                draft.add(NUMBERS + number);
            } else if (token < ASKED) {
                draft.add(token);
            } else {
                return MISPLACED;
            }
            mode = BEHIND_OPERAND;
            return 0;
        }

        private int divisor() {
            if (token != NUMBER) {
                return MISPLACED;
            }
            if (number == 0) {
                return PART_BY_NOTHING;
            }
            draft.add(-number);
            mode = BEHIND_OPERAND;
            return 0;
        }

        private int operator() {
            boolean compares = token >= LESS;
            if (mode != BEHIND_OPERAND || compares && compared) {
                return MISPLACED;
            }
            release(binding(token));
            if (token == PART) {
                mode = AT_DIVISOR;
                return 0;
            }
            hold(token);
            compared = compared || compares;
            mode = AT_OPERAND;
            return 0;
        }

        private int joiner() {
            if (mode == BEHIND_OPERAND && !compared) {
                return MISPLACED;
            }
            switch (token) {
                case AND:
                case OR:
                    release(binding(token));
                    hold(token);
                    mode = AT_CONDITION;
                    return 0;
                case CLOSE:
                    release(1);
                    if (pendingCount == 0) {
                        return MISPLACED;
                    }
                    pendingCount--;
                    opened--;
                    mode = BEHIND_CONDITION;
                    return 0;
                case SEMICOLON:
                    return finishLine();
                default:
                    return MISPLACED;
            }
        }

        private void hold(int operation) {
            if (pendingCount < STACK) {
                pending[pendingCount] = operation;
                pendingCount++;
            }
        }

        /** Those that bind as strongly at least have both their sides; an open ( keeps those ahead of it. */
        private void release(int least) {
            while (pendingCount > 0 && binding(pending[pendingCount - 1]) >= least) {
                pendingCount--;
                draft.add(pending[pendingCount]);
                if (pending[pendingCount] == NOT) {
                    opened--;
                }
            }
        }

        private static int binding(int operation) {
            switch (operation) {
                case OPEN:
                    return 0;
                case OR:
                    return 1;
                case AND:
                    return 2;
                case NOT:
                    return 3;
                case LESS:
                case SAME:
                case MORE:
                    return 4;
                case PLUS:
                case MINUS:
                    return 5;
                default:
                    return 6;
            }
        }
    }

    /** What rules ask of a cart x and another one y. */
    private static final class Pair {
        final int[] asked = new int[ASKED];
        final int[] stack = new int[STACK];

        void put(Crossing k, int x, int goods, int y, int otherGoods) {
            int round = y < x ? y - x + k.roads : y - x;
            asked[RIGHT_IS] = round == 1 ? 1 : 0;
            asked[LEFT_IS] = round == k.roads - 1 ? 1 : 0;
            asked[FIRST_IS] = 0;
            asked[ROADS_IS] = k.roads;
            putOne(k, x, goods, 0);
            putOne(k, y, otherGoods, 1);
        }

        private void putOne(Crossing k, int road, int goods, int other) {
            asked[SIZE_IS + other] = k.fact(SIZE, road);
            asked[TURN_IS + other] = turnOf(k.roads, road, toIn(goods));
            asked[LOAD_IS + other] = loadIn(goods);
            asked[SLOPE_IS + other] = k.fact(SLOPE, road);
            asked[SORT_IS + other] = sortIn(goods);
            asked[SIGN_IS + other] = k.fact(SIGN, road);
        }

        /** The WORDS that are so, as a set. */
        int wordsSo() {
            int so = asked[RIGHT_IS] | asked[LEFT_IS] << 1 | asked[FIRST_IS] << 2;
            if (asked[SIZE_IS + 1] > asked[SIZE_IS]) {
                so |= 1 << 3;
            }
            if (asked[TURN_IS + 1] == 0 && asked[TURN_IS] != 0) {
                so |= 1 << 4;
            }
            if (asked[TURN_IS] == 2 && asked[TURN_IS + 1] != 2) {
                so |= 1 << 5;
            }
            if (asked[LOAD_IS + 1] > asked[LOAD_IS]) {
                so |= 1 << 6;
            }
            if (asked[SIGN_IS + 1] == 0 && asked[SIGN_IS] != 0) {
                so |= 1 << 7;
            }
            return so;
        }
    }

    /** The carts of a crossing as they are. */
    private static final class Standing {
        private final World world;
        private final Pair pair;
        private final int[] walk = new int[MOST_ROADS];
        private int circleStart = 0;
        int circleLength = 0;
        int clearTimes = 0;
        int clearLeft = 0;
        int clearFights = 0;

        Standing(World world, Pair pair) {
            this.world = world;
            this.pair = pair;
        }

        boolean waitsFor(Crossing k, int x, int y, int meaning) {
            if (!k.cartsFight(x, y)) {
                return false;
            }
            int habit = k.carts[HABIT * MOST_ROADS + x];
            if (habit != KNOWS) {
                return habit == WAVES;
            }
            pair.put(k, x, k.goods(x), y, k.goods(y));
            pair.asked[FIRST_IS] = isFirst(k, x, y, meaning) ? 1 : 0;
            Rule rule = world.rules[world.landRules[k.fact(LAND, x)]];
            return rule.isWait(rule.firstLine(pair));
        }

        private static boolean isFirst(Crossing k, int x, int y, int meaning) {
            int rank = k.carts[RANK * MOST_ROADS + x];
            int otherRank = k.carts[RANK * MOST_ROADS + y];
            switch (meaning) {
                case STAY_MORE:
                    return k.carts[STAY * MOST_ROADS + y] > k.carts[STAY * MOST_ROADS + x];
                case NOBODY:
                    return false;
                case RANK_NOT_MORE:
                    return otherRank <= rank;
                default:
                    return otherRank < rank;
            }
        }

        /** The least road of a set of carts for whose cart x waits. */
        private int leastAwaited(Crossing k, int there, int x, int meaning) {
            for (int y = 0; y < k.roads; y++) {
                if (y != x && (there >> y & 1) != 0 && waitsFor(k, x, y, meaning)) {
                    return y;
                }
            }
            return NONE;
        }

        /** Those of a set of carts that may go, if just these are there. */
        int goers(Crossing k, int there, int meaning) {
            int going = 0;
            for (int x = 0; x < k.roads; x++) {
                if ((there >> x & 1) != 0 && leastAwaited(k, there, x, meaning) == NONE) {
                    going |= 1 << x;
                }
            }
            return going;
        }

        void walkCircle(Crossing k) {
            circleLength = 0;
            int there = k.cartSet();
            int held = there & ~goers(k, there, RANK_LESS);
            if (held == 0) {
                return;
            }
            int x = leastOf(held);
            int seen = 0;
            int steps = 0;
            while (steps < MOST_ROADS && x != NONE && (seen >> x & 1) == 0) {
                walk[steps] = x;
                steps++;
                seen |= 1 << x;
                x = leastAwaited(k, there, x, RANK_LESS);
            }
            for (int i = 0; i < steps; i++) {
                if (walk[i] == x) {
                    circleStart = i;
                    circleLength = steps - i;
                }
            }
        }

        int circleRoad(int i) {
            int step = circleStart + i;
            return i >= 0 && step < MOST_ROADS ? walk[step] : NONE;
        }

        void clear(Crossing k) {
            clearTimes = 0;
            clearFights = 0;
            int there = k.cartSet();
            for (int i = 0; i < MOST_ROADS && there != 0; i++) {
                int going = goers(k, there, RANK_LESS);
                if (going == 0) {
                    break;
                }
                clearTimes++;
                if (k.firstFighting(going) != NONE) {
                    clearFights++;
                }
                there &= ~going;
            }
            clearLeft = Integer.bitCount(there);
        }
    }

    /** Days by kept draws. */
    private static final class Days {
        private final World world;
        private final Standing standing;

        Days(World world, Standing standing) {
            this.world = world;
            this.standing = standing;
        }

        /** One tick; answers how many carts went. */
        int tick(Crossing k) {
            bringComers(k);
            bringUpRows(k);
            int there = k.cartSet();
            int going = standing.goers(k, there, RANK_LESS);
            if (k.firstFighting(going) != NONE) {
                k.counts[CRASHES]++;
            }
            if (there != 0 && going == 0) {
                k.counts[STOOD]++;
            }
            for (int road = 0; road < k.roads; road++) {
                if ((going >> road & 1) != 0) {
                    k.roadCounts[GONE * MOST_ROADS + road]++;
                } else if ((there >> road & 1) != 0) {
                    keepWaiting(k, road);
                }
            }
            k.takeAway(going);
            k.counts[TICKS]++;
            return Integer.bitCount(going);
        }

        private void bringComers(Crossing k) {
            for (int road = 0; road < k.roads; road++) {
                int many = k.comerCount[road];
                if (many > 0 && world.drawOf(100) < k.fact(CHANCE, road)) {
                    k.joinRow(road, k.comers[2 * road + world.drawOf(many)]);
                }
            }
        }

        private void bringUpRows(Crossing k) {
            for (int road = 0; road < k.roads; road++) {
                if (!k.hasCart(road) && k.rowLength[road] > 0) {
                    k.putCart(road, k.leaveRow(road), k.counts[TICKS] % 100, KNOWS);
                }
            }
        }

        private static void keepWaiting(Crossing k, int road) {
            k.roadCounts[WAIT_SUM * MOST_ROADS + road]++;
            int stay = k.carts[STAY * MOST_ROADS + road] + 1;
            k.carts[STAY * MOST_ROADS + road] = stay;
            int longest = k.roadCounts[LONGEST * MOST_ROADS + road];
            k.roadCounts[LONGEST * MOST_ROADS + road] = Math.max(longest, stay);
        }
    }

    /** The orders in which carts of a crossing with so many roads come. */
    private static final class Orders {
        int many = 0;
        final int[] ranks = new int[MOST_ORDERS * MOST_ROADS];
        // the slots of the roads that are ahead of a road
        final int[] ahead = new int[MOST_ORDERS * MOST_ROADS];

        Orders(int roads) {
            if (roads <= 4) {
                makeAll(roads);
            } else {
                makeRounds(roads);
            }
            for (int order = 0; order < many; order++) {
                for (int road = 0; road < roads; road++) {
                    ahead[order * MOST_ROADS + road] = slotsAhead(order, road, roads);
                }
            }
        }

        private void makeAll(int roads) {
            int codes = 1;
            for (int i = 0; i < roads; i++) {
                codes *= roads;
            }
            for (int code = 0; code < codes && many < MOST_ORDERS; code++) {
                int rest = code;
                int seen = 0;
                for (int place = roads - 1; place >= 0; place--) {
                    int road = roads > 0 ? rest % roads : 0;
                    rest = roads > 0 ? rest / roads : 0;
                    seen |= 1 << road;
                    ranks[many * MOST_ROADS + road] = place;
                }
                if (seen == (1 << roads) - 1) {
                    many++;
                }
            }
        }

        private void makeRounds(int roads) {
            for (int start = 0; start < roads; start++) {
                for (int road = 0; road < roads; road++) {
                    int place = road < start ? road - start + roads : road - start;
                    ranks[start * MOST_ROADS + road] = place;
                }
            }
            many = roads;
        }

        private int slotsAhead(int order, int road, int roads) {
            int slots = 0;
            for (int other = 0; other < roads; other++) {
                if (ranks[order * MOST_ROADS + other] < ranks[order * MOST_ROADS + road]) {
                    slots |= 3 << 2 * other;
                }
            }
            return slots;
        }
    }

    /** All that can come to a crossing: slot 2 road + i is the i-th comer of a road; sets of slots are bits. */
    private static final class Coming {
        private final World world;
        private final Pair pair;
        private final Orders[] ordersOf = new Orders[MOST_ROADS - LEAST_ROADS + 1];
        private Crossing met;
        private Orders orders;
        private int numbers = 1;
        // for each two slots: how x answers y by each way that is tried, the bits that verdicts() takes
        private final int[] answers = new int[SLOTS * SLOTS];
        private final int[] fighting = new int[SLOTS];
        private final int[] whenFirst = new int[SLOTS];
        private final int[] whenLater = new int[SLOTS];
        private final int[] digits = new int[MOST_ROADS];
        private final boolean[] soundOnes = new boolean[MOST_WORDING + 1];
        int stuck = 0;
        int both = 0;
        int stuckSlots = 0;
        int stuckOrder = 0;
        int bothSlots = 0;
        int bothOrder = 0;
        int badBorders = 0;
        int leastBorder = NONE;

        Coming(World world, Pair pair) {
            this.world = world;
            this.pair = pair;
            for (int i = 0; i < ordersOf.length; i++) {
                ordersOf[i] = new Orders(LEAST_ROADS + i);
            }
            met = world.crossings[0];
            orders = ordersOf[met.roads - LEAST_ROADS];
        }

        private boolean isThere(int slot) {
            return (slot & 1) < met.comerCount[slot >> 1];
        }

        private void meet(Crossing k) {
            met = k;
            int which = k.roads - LEAST_ROADS;
            if (which >= 0 && which < ordersOf.length) {
                orders = ordersOf[which];
            }
            numbers = 1;
            for (int road = 0; road < k.roads; road++) {
                numbers *= k.comerCount[road] + 1;
            }
            for (int x = 0; x < SLOTS; x++) {
                fighting[x] = x < 2 * k.roads && isThere(x) ? fightingWith(x) : 0;
            }
        }

        private int fightingWith(int x) {
            int slots = 0;
            for (int y = 0; y < 2 * met.roads; y++) {
                if (y >> 1 != x >> 1 && isThere(y)
                    && waysFight(x >> 1, toIn(met.comers[x]), y >> 1, toIn(met.comers[y]))) {
                    slots |= 1 << y;
                }
            }
            return slots;
        }

        /** How those that can come wait by a rule, or (NONE) by the rules of the lands. */
        void askByRule(Crossing k, int rule) {
            meet(k);
            ask(BY_RULE, rule);
            settle(BY_RULE, 0);
        }

        /** Fills the answers; a rule of NONE: that of the land of x. */
        private void ask(int by, int rule) {
            for (int x = 0; x < SLOTS; x++) {
                for (int y = 0; y < SLOTS; y++) {
                    if ((fighting[x] >> y & 1) != 0) {
                        pair.put(met, x >> 1, met.comers[x], y >> 1, met.comers[y]);
                        int told = rule == NONE ? world.landRules[met.fact(LAND, x >> 1)] : rule;
                        answers[x * SLOTS + y] = answer(by, told);
                    }
                }
            }
        }

        private int answer(int by, int rule) {
            switch (by) {
                case BY_LANDS:
                    return byRule(world.landRules[0]) | byRule(world.landRules[1]) << 2;
                case BY_SIGNS:
                    int all = 0;
                    for (int signed = 0; signed < 4; signed++) {
                        pair.asked[SIGN_IS] = signed >> 1;
                        pair.asked[SIGN_IS + 1] = signed & 1;
                        all |= byRule(rule) << 2 * signed;
                    }
                    return all;
                case BY_WORDS:
                    return byWords();
                default:
                    return byRule(rule);
            }
        }

        /** Bit 0: whether x waits for y that comes later; bit 1: for y that is first. */
        private int byRule(int number) {
            Rule rule = world.rules[number];
            pair.asked[FIRST_IS] = 0;
            int later = rule.isWait(rule.firstLine(pair)) ? 1 : 0;
            pair.asked[FIRST_IS] = 1;
            int first = rule.isWait(rule.firstLine(pair)) ? 1 : 0;
            return later | first << 1;
        }

        /** The words that are so for y that comes later, and above them for y that is first. */
        private int byWords() {
            pair.asked[FIRST_IS] = 0;
            int later = pair.wordsSo();
            pair.asked[FIRST_IS] = 1;
            return later | pair.wordsSo() << WORDS;
        }

        /** For whom each waits, of what is asked: by a set of roads (lands, signs) or a wording. */
        private void settle(int by, int told) {
            for (int x = 0; x < SLOTS; x++) {
                int later = 0;
                int first = 0;
                for (int y = 0; y < SLOTS && fighting[x] >> y != 0; y++) {
                    if ((fighting[x] >> y & 1) != 0) {
                        int verdict = verdicts(by, told, x, y);
                        later |= (verdict & 1) << y;
                        first |= (verdict >> 1 & 1) << y;
                    }
                }
                whenLater[x] = later;
                whenFirst[x] = first;
            }
        }

        private int verdicts(int by, int told, int x, int y) {
            int all = answers[x * SLOTS + y];
            int mine = told >> (x >> 1) & 1;
            switch (by) {
                case BY_LANDS:
                    return all >> 2 * mine;
                case BY_SIGNS:
                    return all >> 2 * (2 * mine + (told >> (y >> 1) & 1));
                case BY_WORDS:
                    return byWording(all, told) | byWording(all >> WORDS, told) << 1;
                default:
                    return all;
            }
        }

        private static int byWording(int so, int wording) {
            int one = wording > TOLD_WORDS ? wording / WORD_BASE - 1 : wording - 1;
            if ((so >> one % WORDS & 1) != 0) {
                return one < WORDS ? 1 : 0;
            }
            int two = wording % WORD_BASE - 1;
            if (wording > TOLD_WORDS && two >= 0 && (so >> two % WORDS & 1) != 0) {
                return two < WORDS ? 1 : 0;
            }
            return 0;
        }

        /** For whom x waits in an order. */
        private int awaited(int x, int order) {
            int ahead = orders.ahead[order * MOST_ROADS + (x >> 1)];
            return whenFirst[x] & ahead | whenLater[x] & ~ahead;
        }

        int withCarts() {
            return (numbers - 1) * orders.many;
        }

        private void beginNumbers() {
            for (int road = 0; road < MOST_ROADS; road++) {
                digits[road] = 0;
            }
        }

        /** Goes on to the next number; its slots. */
        private int nextNumber() {
            for (int road = met.roads - 1; road >= 0; road--) {
                if (digits[road] < met.comerCount[road]) {
                    digits[road]++;
                    break;
                }
                digits[road] = 0;
            }
            int slots = 0;
            for (int road = 0; road < met.roads; road++) {
                if (digits[road] > 0) {
                    slots |= 1 << 2 * road + digits[road] - 1;
                }
            }
            return slots;
        }

        private int going(int slots, int order) {
            int goers = 0;
            for (int x = 0; x < SLOTS && slots >> x != 0; x++) {
                if ((slots >> x & 1) != 0 && (awaited(x, order) & slots) == 0) {
                    goers |= 1 << x;
                }
            }
            return goers;
        }

        private boolean anyFight(int slots) {
            for (int x = 0; x < SLOTS && slots >> x != 0; x++) {
                if ((slots >> x & 1) != 0 && (fighting[x] & slots) != 0) {
                    return true;
                }
            }
            return false;
        }

        /** Counts those that are stuck, that are both, and finds the least ones. */
        void survey() {
            stuck = 0;
            both = 0;
            stuckSlots = 0;
            bothSlots = 0;
            beginNumbers();
            for (int number = 1; number < numbers; number++) {
                int slots = nextNumber();
                for (int order = 0; order < orders.many; order++) {
                    int goers = going(slots, order);
                    if (goers == 0) {
                        noteStuck(slots, order);
                    } else if (anyFight(goers)) {
                        noteBoth(slots, order);
                    }
                }
            }
        }

        private void noteStuck(int slots, int order) {
            stuck++;
            if (stuckSlots == 0 || Integer.bitCount(slots) < Integer.bitCount(stuckSlots)) {
                stuckSlots = slots;
                stuckOrder = order;
            }
        }

        private void noteBoth(int slots, int order) {
            both++;
            if (bothSlots == 0 || Integer.bitCount(slots) < Integer.bitCount(bothSlots)) {
                bothSlots = slots;
                bothOrder = order;
            }
        }

        void putDown(int slots, int order) {
            met.takeAway((1 << met.roads) - 1);
            for (int x = 0; x < 2 * met.roads; x++) {
                if ((slots >> x & 1) != 0) {
                    met.putCart(x >> 1, met.comers[x], orders.ranks[order * MOST_ROADS + (x >> 1)], KNOWS);
                }
            }
        }

        /** Of how many states, in one order, two roads at most are told. */
        private int statesBut(int road, int other) {
            int states = 1;
            for (int r = 0; r < met.roads; r++) {
                if (r != road && r != other) {
                    states *= met.comerCount[r] + 1;
                }
            }
            return states;
        }

        int oddsOf(int road) {
            int all = met.comerCount[road] * statesBut(road, road) * orders.many;
            int gone = 0;
            for (int i = 0; i < met.comerCount[road]; i++) {
                for (int order = 0; order < orders.many; order++) {
                    gone += statesWithout(road, awaited(2 * road + i, order));
                }
            }
            return all > 0 ? 1000 * (all - gone) / all : NONE;
        }

        /** How many states of the other roads have none of these slots. */
        private int statesWithout(int road, int slots) {
            int states = 1;
            for (int r = 0; r < met.roads; r++) {
                if (r != road) {
                    states *= met.comerCount[r] + 1 - Integer.bitCount(slots >> 2 * r & 3);
                }
            }
            return states;
        }

        int mutualCouples() {
            int couples = 0;
            for (int x = 0; x < SLOTS; x++) {
                for (int y = x + 1; y < SLOTS; y++) {
                    if ((fighting[x] >> y & 1) != 0) {
                        couples += mutualOrders(x, y) * statesBut(x >> 1, y >> 1);
                    }
                }
            }
            return couples;
        }

        private int mutualOrders(int x, int y) {
            int many = 0;
            for (int order = 0; order < orders.many; order++) {
                if ((awaited(x, order) >> y & awaited(y, order) >> x & 1) != 0) {
                    many++;
                }
            }
            return many;
        }

        int usedLines(Crossing k, Rule rule) {
            meet(k);
            int lines = 0;
            for (int x = 0; x < SLOTS; x++) {
                for (int y = 0; y < SLOTS; y++) {
                    if ((fighting[x] >> y & 1) != 0) {
                        lines |= linesFor(rule, x, y);
                    }
                }
            }
            return lines;
        }

        private int linesFor(Rule rule, int x, int y) {
            int lines = 0;
            pair.put(met, x >> 1, met.comers[x], y >> 1, met.comers[y]);
            for (int first = 0; first < 2; first++) {
                pair.asked[FIRST_IS] = first;
                int line = rule.firstLine(pair);
                if (line != NONE) {
                    lines |= 1 << line;
                }
            }
            return lines;
        }

        int starving() {
            int roads = 0;
            for (int x = 0; x < SLOTS; x++) {
                for (int y = 0; y < SLOTS; y++) {
                    if ((whenLater[x] >> y & 1) != 0 && (whenFirst[y] >> x & 1) == 0) {
                        roads |= 1 << (x >> 1);
                    }
                }
            }
            return roads;
        }

        /** Whether anything is ever stuck or both. */
        boolean isEverBad() {
            return isEverBoth() || isEverStuck();
        }

        /** If two of a state go that can't, they do so with nobody else there: couples are enough. */
        private boolean isEverBoth() {
            for (int x = 0; x < SLOTS; x++) {
                for (int y = 0; y < SLOTS && fighting[x] >> y != 0; y++) {
                    if ((fighting[x] >> y & 1) != 0 && ((whenFirst[x] >> y | whenLater[y] >> x) & 1) == 0) {
                        return true;
                    }
                }
            }
            return false;
        }

        private boolean isEverStuck() {
            for (int order = 0; order < orders.many; order++) {
                if (knot(order) != 0 && isStuckIn(order)) {
                    return true;
                }
            }
            return false;
        }

        /** The slots left when those that wait for none of the rest are taken away: who is stuck is of them. */
        private int knot(int order) {
            int left = (1 << SLOTS) - 1;
            for (int i = 0; i < SLOTS && left != 0; i++) {
                int goers = going(left, order);
                if (goers == 0) {
                    break;
                }
                left &= ~goers;
            }
            return left;
        }

        private boolean isStuckIn(int order) {
            beginNumbers();
            for (int number = 1; number < numbers; number++) {
                if (going(nextNumber(), order) == 0) {
                    return true;
                }
            }
            return false;
        }

        /** Which wordings, from a number to another one, are sound for all told crossings. */
        void tryWordings(int crossings, int from, int to) {
            for (int wording = 0; wording <= MOST_WORDING; wording++) {
                soundOnes[wording] = wording >= from && wording <= to && isWording(wording);
            }
            for (int c = 0; c < CROSSINGS; c++) {
                if ((crossings >> c & 1) != 0) {
                    meet(world.crossings[c]);
                    ask(BY_WORDS, 0);
                    sieveWordings();
                }
            }
        }

        private void sieveWordings() {
            for (int wording = 0; wording <= MOST_WORDING; wording++) {
                if (soundOnes[wording]) {
                    settle(BY_WORDS, wording);
                    soundOnes[wording] = !isEverBad();
                }
            }
        }

        boolean isSound(int wording) {
            return within(wording, MOST_WORDING) && soundOnes[wording];
        }

        int leastSound() {
            for (int wording = 0; wording <= MOST_WORDING; wording++) {
                if (soundOnes[wording]) {
                    return wording;
                }
            }
            return NONE;
        }

        int soundWith(int words) {
            int many = 0;
            for (int wording = 0; wording <= MOST_WORDING; wording++) {
                if (soundOnes[wording] && (wording > TOLD_WORDS ? 2 : 1) == words) {
                    many++;
                }
            }
            return many;
        }

        int fewestSigns(Crossing k) {
            meet(k);
            ask(BY_SIGNS, NONE);
            for (int many = 0; many <= k.roads; many++) {
                for (int set = 0; set < 1 << k.roads; set++) {
                    if (Integer.bitCount(set) == many) {
                        settle(BY_SIGNS, set);
                        if (!isEverBad()) {
                            return set;
                        }
                    }
                }
            }
            return NONE;
        }

        void tryBorders(Crossing k) {
            badBorders = 0;
            leastBorder = NONE;
            meet(k);
            ask(BY_LANDS, NONE);
            for (int set = 0; set < 1 << k.roads; set++) {
                settle(BY_LANDS, set);
                if (isEverBad()) {
                    badBorders++;
                    leastBorder = leastBorder == NONE ? set : leastBorder;
                }
            }
        }
    }

    /** Links of crossings near each other, and the ring of them that fills first. */
    private static final class Rings {
        private final World world;
        // how much fills from a link on till the goal follows
        private final int[] fill = new int[LINKS];
        final int[] row = new int[LINKS];
        int length = 0;
        int fills = 0;

        Rings(World world) {
            this.world = world;
        }

        private boolean leads(int link) {
            return world.crossings[link / MOST_ROADS].leads(link % MOST_ROADS);
        }

        private int held(int what, int link) {
            return world.crossings[link / MOST_ROADS].links[what * MOST_ROADS + link % MOST_ROADS];
        }

        private boolean follows(int link, int next) {
            return leads(next) && next / MOST_ROADS == held(LINK_TO, link)
                && next % MOST_ROADS != held(LINK_IN, link);
        }

        void seek() {
            length = 0;
            fills = FAR;
            int start = NONE;
            for (int link = 0; link < LINKS; link++) {
                if (leads(link)) {
                    measure(link);
                    if (fill[link] < fills) {
                        fills = fill[link];
                        start = link;
                    }
                }
            }
            if (start != NONE) {
                measure(start);
                goRound(start);
            }
        }

        private void measure(int goal) {
            Arrays.fill(fill, FAR);
            for (int i = 0; i < LINKS; i++) {
                if (!comesNearer(goal)) {
                    break;
                }
            }
        }

        private boolean comesNearer(int goal) {
            boolean nearer = false;
            for (int link = 0; link < LINKS; link++) {
                if (leads(link)) {
                    int way = held(LINK_ROOM, link) + 1 + leastBehind(link, goal);
                    if (way < fill[link]) {
                        fill[link] = way;
                        nearer = true;
                    }
                }
            }
            return nearer;
        }

        private int leastBehind(int link, int goal) {
            if (follows(link, goal)) {
                return 0;
            }
            int least = FAR;
            int start = MOST_ROADS * held(LINK_TO, link);
            for (int next = start; next < start + MOST_ROADS; next++) {
                if (follows(link, next)) {
                    least = Math.min(least, fill[next]);
                }
            }
            return least;
        }

        /** No link comes twice: a row that fills with the fewest holds no lesser ring. */
        private void goRound(int start) {
            int link = start;
            while (length < LINKS) {
                row[length] = link;
                length++;
                if (follows(link, start)) {
                    return;
                }
                link = nextOf(link, fill[link] - held(LINK_ROOM, link) - 1);
            }
        }

        private int nextOf(int link, int left) {
            for (int next = 0; next < LINKS; next++) {
                if (follows(link, next) && fill[next] == left) {
                    return next;
                }
            }
            return link;
        }
    }
}
