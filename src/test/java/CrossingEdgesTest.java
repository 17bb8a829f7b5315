/** The edges of what is told of crossings, roads, ways and carts: "Terms" 1 and promises 1 to 8. */
public final class CrossingEdgesTest extends Asking {
    private static final int SIZE = 0;
    private static final int SLOPE = 1;
    private static final int SIGN = 2;
    private static final int LAND = 3;

    public static void main(String[] args) {
        empties();
        states();
        sizes();
        turns();
        fights();
        facts();
        lands();
        carts();
        habits();
        newCrossings();
        close();
    }

    private static void empties() {
        edge("Empty crossings.", x -> {
            for (int c = 0; c < 6; c++) {
                due("now(" + c + ", 3)", x.now(c, 3), 0);
                for (int r = 0; r < 4; r++) {
                    due("of(" + c + ", " + r + ", 0)", x.of(c, r, 0), NONE);
                    due("odds(" + c + ", " + r + ")", x.odds(c, r), NONE);
                    due("days(" + c + ", " + r + ", 4)", x.days(c, r, 4), 0);
                }
                for (int what = 0; what < 4; what++) {
                    due("count(" + c + ", " + what + ")", x.count(c, what), 0);
                }
            }
            due("look(1)", x.look(1), 0);
        });
        edge("RULES 0 .. 3 are TEXTS (empty at first)", x -> {
            due("look(0)", x.look(0), 0);
            x.cart(0, 0, 2, 0, 0, 5, 0);
            x.cart(0, 1, 3, 0, 0, 3, 0);
            for (int k = 0; k < 4; k++) {
                x.land(0, k);
                due("now(0, 0) by rule " + k, x.now(0, 0), 3);
                due("used(" + k + ", 0)", x.used(k, 0), 0);
            }
        });
        edge("fault: of the latest rule(): 0 without one, its place NONE", x -> {
            due("fault(0)", x.fault(0), 0);
            due("fault(1)", x.fault(1), NONE);
        });
        edge("image: false if there is none", x -> {
            due("look(2)", x.look(2), 0);
            due("image(false)", x.image(false), false);
            due("look(2)", x.look(2), 0);
        });
    }

    private static void states() {
        edge("There is one STATE of draws (an int, 0 at first)", x -> {
            due("look(3)", x.look(3), 0);
            due("state(MIN)", x.state(LEAST), 0);
            due("look(3)", x.look(3), LEAST);
            due("state(MAX)", x.state(MOST), LEAST);
            due("state(-1)", x.state(-1), MOST);
            due("look(3)", x.look(3), -1);
            due("state(0)", x.state(0), -1);
        });
        for (int state : new int[] {0, -1, 1, LEAST, MOST, 305419896, -305419896}) {
            edge("1664525 times itself + 1013904223 (ints, which wrap)", x -> {
                x.state(state);
                x.comer(0, 0, 2, 0, 0);
                x.run(0, 1);
                due("look(3) from " + state, x.look(3), (int) (1664525L * state + 1013904223L));
            });
        }
    }

    private static void sizes() {
        edge("CROSSINGS 0 .. 5 ... numbered: each is one of its own", x -> {
            x.cart(5, 0, 2, 0, 0, 0, 0);
            x.cart(0, 1, 3, 0, 0, 0, 0);
            for (int c = 0; c < 6; c++) {
                due("now(" + c + ", 3)", x.now(c, 3), c == 5 ? 1 : c == 0 ? 2 : 0);
            }
        });
        edge("have n ROADS (3 .. 6; 4 at first)", x -> {
            for (int c = 0; c < 6; c++) {
                due("road(" + c + ", 3, 0, 0)", x.road(c, 3, SIZE, 0), true);
                due("road(" + c + ", 4, 0, 0)", x.road(c, 4, SIZE, 0), false);
            }
            due("crossing(0, 2)", x.crossing(0, 2), false);
            due("still 4", x.road(0, 3, SIZE, 0), true);
            due("crossing(0, 3)", x.crossing(0, 3), true);
            due("now 3", x.road(0, 3, SIZE, 0), false);
            due("crossing(0, 7)", x.crossing(0, 7), false);
            due("still 3", x.road(0, 3, SIZE, 0), false);
            due("crossing(0, 6)", x.crossing(0, 6), true);
            due("now 6", x.road(0, 5, SIZE, 0), true);
            due("now 6", x.road(0, 6, SIZE, 0), false);
            due("others stay 4", x.road(1, 3, SIZE, 0), true);
            due("others stay 4", x.road(1, 4, SIZE, 0), false);
        });
        for (int n = 3; n < 7; n++) {
            for (int r = 0; r < n; r++) {
                neighbours(n, r);
            }
        }
    }

    /** Two carts that want to one road, so that they fight: for whom the one on road r waits. */
    private static void neighbours(int n, int r) {
        edge("who comes from ROAD r has ROAD r + 1 (modulo n) on the right", x -> {
            told(x, 0, "wait when right = 1;");
            told(x, 1, "wait when left = 1;");
            told(x, 2, "wait when right = 0 and left = 0;");
            x.crossing(0, n);
            int[] asked = new int[n];
            for (int q = 0; q < n; q++) {
                if (q != r) {
                    int to = 0;
                    while (to == r || to == q) {
                        to++;
                    }
                    x.cart(0, r, to, 0, 0, 0, 0);
                    x.cart(0, q, to, 0, 0, 0, 0);
                    for (int k = 0; k < 3; k++) {
                        x.land(0, k);
                        asked[q] |= x.waits(0, r, q) << k;
                    }
                    x.cart(0, q, NONE, 0, 0, 0, 0);
                }
            }
            int right = r == n - 1 ? 0 : r + 1;
            int left = r == 0 ? n - 1 : r - 1;
            for (int q = 0; q < n; q++) {
                int want = q == r ? 0 : q == right ? 1 : q == left ? 2 : 4;
                due("of " + n + " roads " + q + " seen from " + r, asked[q], want);
            }
        });
    }

    private static void turns() {
        String[] turnsByRoads = {"012 201 120", "0102 2010 0201 1020", "01002 20100 02010 00201 10020",
            "010002 201000 020100 002010 000201 100020"};
        for (int n = 3; n < 7; n++) {
            String[] from = turnsByRoads[n - 3].split(" ");
            int roads = n;
            edge("its TURN: (b less a modulo n) 1: right (1), n - 1: left (2), else straight (0)", x -> {
                x.crossing(3, roads);
                for (int a = 0; a < roads; a++) {
                    for (int b = 0; b < roads; b++) {
                        int want = a == b ? NONE : from[a].charAt(b) - '0';
                        due("of " + roads + " roads from " + a + " to " + b, x.fight(3, a, b, NONE, MOST), want);
                    }
                }
            });
        }
    }

    private static void fights() {
        edge("Two WAYS from unlike ROADS FIGHT, if they go to the same ROAD", x -> {
            due("to 1, the nearest of both", x.fight(0, 0, 1, 2, 1), 1);
            due("to 1, but from one road", x.fight(0, 0, 1, 0, 1), NONE);
            due("to 0 over the last point", x.fight(0, 3, 0, 1, 0), 1);
        });
        edge("points behind the lesser and ahead of the greater: a right turn has none", x -> {
            for (int c = 0; c < 4; c++) {
                x.crossing(c, c + 3);
                int n = c + 3;
                due("right turns of " + n, x.fight(c, 0, 1, 1, 2), 0);
                due("right turns of " + n, x.fight(c, n - 1, 0, 0, 1), 0);
                due("right turns of " + n, x.fight(c, n - 1, 0, n - 2, n - 1), 0);
                due("a right turn and a left one to its road", x.fight(c, 0, 1, 1, 0), 0);
            }
        });
        edge("just one of the two points: those next to the ends of the row of points", x -> {
            due("3 .. 6: point 4 lies in it, 7 doesn't", x.fight(0, 1, 3, 3, 2), 1);
            due("3 .. 6: point 5 lies in it, 0 doesn't", x.fight(0, 1, 3, 2, 0), 1);
            due("3 .. 6: 5 and 4 lie in it", x.fight(0, 1, 3, 2, 3), 1);
            due("3 .. 6: 7 and 0 don't", x.fight(0, 1, 3, 3, 0), 0);
            due("3 .. 6: 1 and 2 don't", x.fight(0, 1, 3, 0, 1), 0);
            due("0 .. 7: all do", x.fight(0, 3, 0, 0, 3), 0);
            due("0 .. 7: all do", x.fight(0, 3, 0, 2, 1), 0);
        });
        for (int n = 3; n < 7; n++) {
            for (int a = 0; a < n; a++) {
                allFights(n, a);
            }
        }
    }

    /** Whoever goes round from the first way's point to its other one meets just one of the points of the second way. */
    private static void allFights(int n, int a) {
        edge("It goes from point 2 a + 1 to point 2 b of 2 n points round the crossing", x -> {
            x.crossing(1, n);
            for (int b = 0; b < n; b++) {
                for (int from = 0; from < n; from++) {
                    for (int to = 0; to < n; to++) {
                        int met = 0;
                        for (int point = 2 * a + 1; point != 2 * b; point = (point + 1) % (2 * n)) {
                            met += (point == 2 * from + 1 ? 1 : 0) + (point == 2 * to ? 1 : 0);
                        }
                        boolean cant = a == b || from == to || a == from;
                        int want = cant ? NONE : to == b || met == 1 ? 1 : 0;
                        due("of " + n + " roads fight(1, " + a + ", " + b + ", " + from + ", " + to + ")",
                            x.fight(1, a, b, from, to), want);
                    }
                }
            }
        });
    }

    /** Whether a condition is so for the cart on road 0 of the one on road 1, which go straight. */
    private static void so(FourPalms x, String condition, boolean want) {
        told(x, 0, "wait when " + condition + ";");
        x.cart(0, 0, 2, 0, 0, 0, 0);
        x.cart(0, 1, 3, 0, 0, 0, 0);
        due(condition, x.waits(0, 0, 1), want ? 1 : 0);
    }

    private static void facts() {
        edge("SIZE 0 .. 3 (0 at first), SLOPE 0, 1, SIGN 0, 1, 2 (all 0 at first)", x -> {
            so(x, "size = 0 and osize = 0", true);
            so(x, "slope = 0 and oslope = 0", true);
            so(x, "sign = 0 and osign = 0", true);
        });
        String[] names = {"size", "slope", "sign"};
        int[] most = {3, 1, 2};
        for (int what = 0; what < 3; what++) {
            String name = names[what];
            int last = most[what];
            int fact = what;
            edge(name + " up to " + last + "; false if one can't be", x -> {
                due("the last one", x.road(0, 0, fact, last), true);
                so(x, name + " = " + last, true);
                due("one more", x.road(0, 0, fact, last + 1), false);
                so(x, name + " = " + last, true);
                due("one below", x.road(0, 0, fact, -1), false);
                so(x, name + " = " + last, true);
                so(x, "o" + name + " = 0", true);
                due("the other road", x.road(0, 1, fact, last), true);
                so(x, "o" + name + " = " + last, true);
                due("the first one", x.road(0, 0, fact, 0), true);
                so(x, name + " = 0", true);
                for (int other = 0; other < 3; other++) {
                    if (other != fact) {
                        so(x, names[other] + " = 0 and o" + names[other] + " = 0", true);
                    }
                }
            });
        }
        edge("CHANCE of a ROAD: 0 .. 100 (0 at first); false if one can't be", x -> {
            x.comer(0, 0, 2, 0, 0);
            due("0 at first: none in 60", x.run(0, 60), 0);
            due("100", x.road(0, 0, 4, 100), true);
            due("101", x.road(0, 0, 4, 101), false);
            due("-1", x.road(0, 0, 4, -1), false);
            due("100 stays: each in 60", x.run(0, 60), 60);
            due("0", x.road(0, 0, 4, 0), true);
            due("none in 60", x.run(0, 60), 0);
        });
        edge("What 0 SIZE, 1 SLOPE, 2 SIGN, 3 LAND, 4 CHANCE: no other", x -> {
            due("what -1", x.road(0, 0, -1, 0), false);
            due("what 5", x.road(0, 0, 5, 0), false);
            due("what MAX", x.road(0, 0, MOST, 0), false);
            due("what MIN", x.road(0, 0, LEAST, 0), false);
        });
    }

    private static void lands() {
        edge("LANDS' RULES: RULE k of LAND k (0 and 1 at first; told)", x -> {
            told(x, 1, "wait;");
            so(x, "left = 1", false);
            x.road(0, 0, LAND, 1);
            due("by rule 1 of land 1", x.waits(0, 0, 1), 1);
            due("by rule 0 of land 0", x.waits(0, 1, 0), 1);
            told(x, 3, "go;");
            due("land(1, 3)", x.land(1, 3), true);
            due("by rule 3 of land 1", x.waits(0, 0, 1), 0);
            due("by rule 0 of land 0", x.waits(0, 1, 0), 1);
            due("land(0, 3)", x.land(0, 3), true);
            due("by rule 3 of land 0", x.waits(0, 1, 0), 0);
        });
        edge("LAND k has a RULE: false if one can't be", x -> {
            told(x, 1, "wait;");
            so(x, "right = 1", true);
            for (int[] no : new int[][] {{-1, 1}, {2, 1}, {0, -1}, {0, 4}, {1, 4}, {LEAST, 0}, {0, MOST}}) {
                due("land(" + no[0] + ", " + no[1] + ")", x.land(no[0], no[1]), false);
            }
            due("land 0 has rule 0 yet", x.waits(0, 1, 0), 0);
            x.road(0, 1, LAND, 1);
            due("land 1 has rule 1 yet", x.waits(0, 1, 0), 1);
        });
        edge("LAND 0, 1: a ROAD of land 2 or -1 can't be", x -> {
            told(x, 1, "wait;");
            so(x, "left = 1", false);
            due("land 1", x.road(0, 0, LAND, 1), true);
            due("land 2", x.road(0, 0, LAND, 2), false);
            due("land -1", x.road(0, 0, LAND, -1), false);
            due("it is of land 1 yet", x.waits(0, 0, 1), 1);
        });
    }

    private static void carts() {
        edge("A CART stands on a ROAD (one each)", x -> {
            x.cart(0, 0, 2, 1, 2, 3, 0);
            x.cart(0, 0, 1, 3, 9, 99, 2);
            int[] is = {1, 3, 9, 99, 2, 0};
            for (int what = 0; what < 6; what++) {
                due("of(0, 0, " + what + ")", x.of(0, 0, what), is[what]);
            }
            due("one cart", x.now(0, 3), 1);
        });
        edge("SORT 0 .. 3, LOAD 0 .. 9, RANK 0 .. 99, HABIT 0, 1, 2: the least ones", x -> {
            due("cart", x.cart(0, 3, 0, 0, 0, 0, 0), true);
            for (int what = 0; what < 6; what++) {
                due("of(0, 3, " + what + ")", x.of(0, 3, what), 0);
            }
        });
        edge("false if one can't be: the CART that stands there stays", x -> {
            x.cart(0, 1, 2, 2, 5, 50, 1);
            int[][] no = {{1, 0, 0, 0, 0}, {4, 0, 0, 0, 0}, {-2, 0, 0, 0, 0}, {3, 4, 0, 0, 0}, {3, -1, 0, 0, 0},
                {3, 0, 10, 0, 0}, {3, 0, -1, 0, 0}, {3, 0, 0, 100, 0}, {3, 0, 0, -1, 0}, {3, 0, 0, 0, 3}, {3, 0, 0, 0, -1}};
            int[] is = {2, 2, 5, 50, 1, 0};
            for (int[] a : no) {
                due("cart to " + a[0] + " ...", x.cart(0, 1, a[0], a[1], a[2], a[3], a[4]), false);
                for (int what = 0; what < 6; what++) {
                    due("of(0, 1, " + what + ")", x.of(0, 1, what), is[what]);
                }
            }
        });
        edge("to NONE: none any more, the rest isn't looked at", x -> {
            x.cart(0, 2, 0, 0, 0, 0, 0);
            x.cart(0, 3, 1, 0, 0, 0, 0);
            due("cart", x.cart(0, 2, NONE, LEAST, MOST, -1, 3), true);
            due("now(0, 3)", x.now(0, 3), 8);
            due("where none is", x.cart(0, 2, NONE, 4, 10, 100, MOST), true);
            due("on no road", x.cart(0, 4, NONE, 0, 0, 0, 0), false);
            due("at no crossing", x.cart(6, 3, NONE, 0, 0, 0, 0), false);
            due("now(0, 3)", x.now(0, 3), 8);
        });
        edge("of: NONE without one; NONE - 1 if one can't be, or another what", x -> {
            for (int what = 0; what < 6; what++) {
                due("no cart, what " + what, x.of(0, 0, what), NONE);
            }
            x.cart(0, 0, 1, 0, 0, 0, 0);
            due("what 5", x.of(0, 0, 5), 0);
            due("what 6", x.of(0, 0, 6), NONE - 1);
            due("what -1", x.of(0, 0, -1), NONE - 1);
            due("road 4", x.of(0, 4, 0), NONE - 1);
            due("road -1", x.of(0, -1, 0), NONE - 1);
            due("crossing 6", x.of(6, 0, 0), NONE - 1);
            due("crossing -1", x.of(-1, 0, 0), NONE - 1);
        });
    }

    private static void habits() {
        edge("who came first has less; of equal RANKS nobody did", x -> {
            told(x, 0, "wait when first = 1;");
            int[][] ranks = {{0, 0}, {99, 99}, {1, 0}, {0, 1}, {99, 98}, {98, 99}, {0, 99}, {99, 0}};
            for (int[] of : ranks) {
                x.cart(0, 0, 2, 0, 0, of[0], 0);
                x.cart(0, 1, 3, 0, 0, of[1], 0);
                due("ranks " + of[0] + ", " + of[1], x.waits(0, 0, 1), of[1] < of[0] ? 1 : 0);
                due("ranks " + of[1] + ", " + of[0], x.waits(0, 1, 0), of[0] < of[1] ? 1 : 0);
            }
        });
        edge("HABIT 0 none, 1 it waves, 2 it does not know", x -> {
            for (int rule = 0; rule < 2; rule++) {
                told(x, 0, rule == 0 ? "go;" : "wait;");
                for (int habit = 0; habit < 3; habit++) {
                    x.cart(0, 0, 2, 0, 0, 0, habit);
                    x.cart(0, 1, 3, 0, 0, 0, 0);
                    x.cart(0, 2, 0, 0, 0, 0, 0);
                    due("habit " + habit, x.waits(0, 0, 1), habit == 1 || habit == 0 && rule == 1 ? 1 : 0);
                    due("habit " + habit + ", they don't fight", x.waits(0, 0, 2), 0);
                    due("the other one's habit is nothing to it", x.waits(0, 1, 0), rule);
                }
            }
        });
    }

    private static void newCrossings() {
        edge("A CROSSING has n ROADS: all of it is as at first", x -> {
            told(x, 0, "wait when size + slope + sign > 0;");
            told(x, 1, "wait;");
            for (int r = 0; r < 4; r++) {
                for (int what = 0; what < 5; what++) {
                    x.road(2, r, what, 1);
                }
                x.road(2, r, 4, 100);
                x.comer(2, r, (r + 2) % 4, 0, 0);
                x.comer(2, r, (r + 1) % 4, 0, 0);
                x.cart(2, r, (r + 2) % 4, 0, 0, 0, 1);
                x.link(2, r, 3, r, 1);
                x.link(3, r, 2, r, 1);
                x.link(4, r, 5, r, 1);
            }
            x.run(2, 30);
            due("links ahead", x.look(1), 12);
            due("crossing(2, 4)", x.crossing(2, 4), true);
            due("carts", x.now(2, 3), 0);
            due("comers", x.ever(2, 0), 0);
            due("its links and those to it nowhere", x.look(1), 4);
            for (int r = 0; r < 4; r++) {
                for (int what = 0; what < 3; what++) {
                    due("days(2, " + r + ", " + what + ")", x.days(2, r, what), 0);
                }
                due("days(2, " + r + ", 3)", x.days(2, r, 3), NONE);
                due("rows", x.days(2, r, 4), 0);
                due("count", x.count(2, r), 0);
                x.cart(2, r, (r + 2) % 4, 0, 0, 0, 0);
            }
            due("size, slope, sign, land", x.now(2, 0), 15);
            for (int r = 0; r < 4; r++) {
                x.cart(2, r, NONE, 0, 0, 0, 0);
                due("comer", x.comer(2, r, (r + 1) % 4, 0, 0), 1);
            }
            due("chances", x.run(2, 20), 0);
        });
        edge("false if one can't be: nothing of it changes", x -> {
            x.cart(2, 0, 1, 0, 0, 0, 0);
            x.link(2, 0, 3, 1, 1);
            x.link(3, 0, 2, 1, 1);
            for (int n : new int[] {LEAST, -1, 0, 2, 7, MOST}) {
                due("crossing(2, " + n + ")", x.crossing(2, n), false);
            }
            due("crossing(-1, 4)", x.crossing(-1, 4), false);
            due("crossing(6, 4)", x.crossing(6, 4), false);
            due("now(2, 3)", x.now(2, 3), 1);
            due("look(1)", x.look(1), 2);
        });
        edge("all of it is as at first: what isn't of it stays", x -> {
            told(x, 2, "wait;");
            x.land(0, 2);
            x.state(99);
            x.image(true);
            x.cart(1, 0, 2, 0, 0, 0, 0);
            x.cart(1, 1, 3, 0, 0, 0, 0);
            x.comer(1, 0, 2, 0, 0);
            x.run(1, 1);
            tape(x, "go;");
            x.crossing(0, 6);
            x.crossing(2, 3);
            due("carts of another one", x.now(1, 3), 3);
            due("its rule", x.now(1, 1), 1);
            due("its ticks", x.count(1, 0), 1);
            due("its comers", x.ever(1, 0), 24);
            due("lines", x.look(0), 1);
            due("image", x.look(2), 1);
            due("tape", taped(x), 3);
        });
    }
}
