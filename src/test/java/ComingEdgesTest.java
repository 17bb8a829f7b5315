/** The edges of all that can come and what is told of it: "Terms" 3 and promises 19 to 30. */
public final class ComingEdgesTest extends Asking {
    private static final int SIZE = 0;
    private static final int SIGN = 2;
    private static final int LAND = 3;

    public static void main(String[] args) {
        comers();
        orders();
        numbering();
        evers();
        oneOrder();
        knots();
        landsOfRoads();
        laying();
        standing();
        odds();
        mutual();
        used();
        holds();
        starve();
        words();
        truths();
        wordings();
        shortest();
        signs();
        borders();
        close();
    }

    /** One comer on each road, who goes left, so that each fights with its neighbours' at least. */
    private static void comersToTheLeft(FourPalms x, int c, int n) {
        x.crossing(c, n);
        for (int r = 0; r < n; r++) {
            x.comer(c, r, (r + n - 1) % n, 0, 0);
        }
    }

    /** Two comers that fight, straight from roads 0 and 1 of four. */
    private static void two(FourPalms x, int c) {
        x.comer(c, 0, 2, 0, 0);
        x.comer(c, 1, 3, 0, 0);
    }

    private static void comers() {
        edge("COMERS of a ROAD (2 at most): NONE if there are two", x -> {
            due("the 1st", x.comer(0, 0, 1, 3, 9), 1);
            due("the 2nd, alike", x.comer(0, 0, 1, 3, 9), 2);
            due("the 3rd", x.comer(0, 0, 2, 0, 0), NONE);
            due("there are two yet", x.ever(0, 0), 48);
            due("another road", x.comer(0, 1, 0, 0, 0), 1);
            due("another crossing", x.comer(1, 0, 2, 0, 0), 1);
        });
        edge("COMERS: those two are the first that were told", x -> {
            told(x, 0, "wait;");
            x.comer(0, 0, 2, 1, 3);
            x.comer(0, 0, 2, 2, 4);
            x.comer(0, 0, 2, 3, 5);
            x.comer(0, 1, 3, 0, 0);
            due("lay", x.lay(0, 0), true);
            due("sort", x.of(0, 0, 1), 1);
            due("load", x.of(0, 0, 2), 3);
        });
        edge("to NONE: there are none any more, the rest isn't looked at", x -> {
            x.comer(0, 0, 2, 0, 0);
            x.comer(0, 0, 1, 0, 0);
            x.comer(0, 1, 0, 0, 0);
            due("none any more", x.comer(0, 0, NONE, LEAST, MOST), 0);
            due("those of another road stay", x.ever(0, 0), 24);
            due("none where none are", x.comer(0, 0, NONE, 4, 10), 0);
            due("anew the 1st", x.comer(0, 0, 2, 0, 0), 1);
            due("of no road", x.comer(0, 4, NONE, 0, 0), NONE);
            due("of no road", x.comer(0, -1, NONE, 0, 0), NONE);
            due("of no crossing", x.comer(6, 0, NONE, 0, 0), NONE);
        });
        edge("comer: NONE if one can't be", x -> {
            int[][] no = {{0, 0, 0}, {4, 0, 0}, {-2, 0, 0}, {1, -1, 0}, {1, 4, 0}, {1, 0, -1}, {1, 0, 10}};
            for (int[] a : no) {
                due("comer to " + a[0] + ", " + a[1] + ", " + a[2], x.comer(0, 0, a[0], a[1], a[2]), NONE);
            }
            due("none is there", x.ever(0, 0), 0);
            due("the first one", x.comer(0, 0, 3, 3, 9), 1);
            for (int[] a : no) {
                due("comer to " + a[0] + ", " + a[1] + ", " + a[2], x.comer(0, 0, a[0], a[1], a[2]), NONE);
            }
            due("one is there", x.ever(0, 0), 24);
        });
    }

    private static void orders() {
        edge("with n of 3, 4 all orders of the ROADS, with more those n", x -> {
            int[] many = {6, 24, 5, 6};
            for (int n = 3; n < 7; n++) {
                x.crossing(0, n);
                due("nobody comes to " + n, x.ever(0, 0), 0);
                x.comer(0, n - 1, 0, 0, 0);
                due("one comer, of " + n + " roads", x.ever(0, 0), many[n - 3]);
                x.comer(0, n - 1, 1, 0, 0);
                x.comer(0, 0, 1, 0, 0);
                due("3 times 2 less the empty one, of " + n + " roads", x.ever(0, 0), 5 * many[n - 3]);
            }
        });
        edge("RANK is the place in the order: 0 .. n - 1", x -> {
            told(x, 0, "wait when right = 1;");
            for (int n = 3; n < 5; n++) {
                comersToTheLeft(x, 0, n);
                due("lay, of " + n, x.lay(0, 0), true);
                for (int r = 0; r < n; r++) {
                    due("of " + n + " roads, road " + r, x.of(0, r, 3), r);
                }
            }
        });
        for (int n = 3; n < 7; n++) {
            for (int q = 1; q < n; q++) {
                for (int p = 0; p < q; p++) {
                    ordersOfTwo(n, p, q);
                }
            }
        }
    }

    /** In how many orders one of two roads, p below q, is ahead, and which is the first such one. */
    private static void ordersOfTwo(int n, int p, int q) {
        String told = n < 5 ? "all orders of the ROADS ... the ORDERS, by numbers"
            : "those n that begin with one ROAD and go on round to the right";
        edge(told, x -> {
            x.crossing(3, n);
            int to = 0;
            while (to == p || to == q) {
                to++;
            }
            x.comer(3, p, to, 0, 0);
            x.comer(3, q, to, 0, 0);
            x.road(3, q, SIZE, 1);
            String of = "of " + n + " roads " + p + " and " + q + ": ";
            told(x, 0, "wait when size = 1 and first = 0 or size = 0 and first = 1;");
            due(of + "orders with " + q + " ahead", x.ever(3, 1), n == 3 ? 3 : n == 4 ? 12 : q - p);
            due(of + "lay", x.lay(3, 0), true);
            due(of + "the first of them, " + p, x.of(3, p, 3), n < 5 ? q : n - 1);
            due(of + "the first of them, " + q, x.of(3, q, 3), n < 5 ? q - 1 : q - p - 1);
            due(of + "both in all others", x.ever(3, 2), n == 3 ? 3 : n == 4 ? 12 : n - q + p);
            due(of + "lay", x.lay(3, 1), true);
            due(of + "the first of those, " + p, x.of(3, p, 3), p);
            due(of + "the first of those, " + q, x.of(3, q, 3), q);
            told(x, 0, "wait when size = 1 and first = 1 or size = 0 and first = 0;");
            due(of + "orders with " + p + " ahead", x.ever(3, 1), n == 3 ? 3 : n == 4 ? 12 : n - q + p);
            due(of + "lay", x.lay(3, 0), true);
            due(of + "the first of them, " + p, x.of(3, p, 3), p);
            due(of + "the first of them, " + q, x.of(3, q, 3), q);
            due(of + "lay", x.lay(3, 1), true);
            due(of + "the first of those, " + p, x.of(3, p, 3), n < 5 ? q : n - 1);
            due(of + "the first of those, " + q, x.of(3, q, 3), n < 5 ? q - 1 : q - p - 1);
        });
    }

    private static void numbering() {
        edge("the ROADS' digits, ROAD 0 the highest: of several LEAST the first", x -> {
            told(x, 0, "wait;");
            for (int r = 0; r < 4; r++) {
                x.comer(0, r, (r + 2) % 4, 0, 2 * r);
                x.comer(0, r, (r + 2) % 4, 0, 2 * r + 1);
            }
            due("two carts", x.ever(0, 3), 2);
            due("lay", x.lay(0, 0), true);
            due("ROADS 2 and 3, which count least", x.now(0, 3), 12);
            due("their first comers", x.of(0, 2, 2), 4);
            due("their first comers", x.of(0, 3, 2), 6);
            x.comer(0, 3, NONE, 0, 0);
            due("lay", x.lay(0, 0), true);
            due("ROADS 1 and 2", x.now(0, 3), 6);
            x.comer(0, 2, NONE, 0, 0);
            due("lay", x.lay(0, 0), true);
            due("ROADS 0 and 1", x.now(0, 3), 3);
        });
        edge("each to the base of its own COMERS and 1: the second comer counts 2", x -> {
            told(x, 0, "wait when load + oload = 3;");
            x.comer(0, 0, 2, 0, 1);
            x.comer(0, 0, 2, 0, 2);
            x.comer(0, 1, 3, 0, 2);
            x.comer(0, 1, 3, 0, 1);
            due("stuck: 1 1 and 2 2", x.ever(0, 1), 48);
            due("both: 1 2 and 2 1", x.ever(0, 2), 48);
            due("lay", x.lay(0, 0), true);
            due("1 1", x.of(0, 0, 2), 1);
            due("lay", x.lay(0, 1), true);
            due("1 2: the first one of road 0", x.of(0, 0, 2), 1);
            due("1 2: the second one of road 1", x.of(0, 1, 2), 1);
        });
        edge("that with the fewest CARTS, of several the first", x -> {
            told(x, 0, "wait when size = 0 and osize = 1 or size = 1 and osize = 2 or size = 2 and osize = 0; wait when size = 3;"
                + "go;");
            x.road(0, 1, SIZE, 1);
            x.road(0, 2, SIZE, 2);
            x.crossing(1, 3);
            for (int r = 0; r < 3; r++) {
                x.road(1, r, SIZE, r);
                x.comer(1, r, (r + 2) % 3, 0, 0);
            }
            due("three in a ring", x.ever(1, 3), 3);
            due("no two go", x.ever(1, 4), NONE);
            x.road(1, 1, SIZE, 3);
            x.road(1, 0, SIZE, 3);
            due("two of size 3", x.ever(1, 3), 2);
            due("lay", x.lay(1, 0), true);
            due("ROADS 0 and 1", x.now(1, 3), 3);
        });
    }

    private static void evers() {
        edge("those with a CART at least: the empty one is neither counted nor STUCK", x -> {
            for (int what = 0; what < 3; what++) {
                due("nobody comes, what " + what, x.ever(0, what), 0);
            }
            due("LEAST STUCK", x.ever(0, 3), NONE);
            due("LEAST BOTH", x.ever(0, 4), NONE);
            x.comer(0, 2, 0, 0, 0);
            told(x, 0, "wait;");
            due("one comer", x.ever(0, 0), 24);
            due("alone it isn't stuck", x.ever(0, 1), 0);
            due("LEAST STUCK", x.ever(0, 3), NONE);
        });
        edge("EVER (each number in each ORDER for one)", x -> {
            two(x, 0);
            due("no rule: both, in 24 orders", x.ever(0, 2), 24);
            due("with 2", x.ever(0, 4), 2);
            due("stuck", x.ever(0, 1), 0);
            told(x, 0, "wait;");
            due("stuck, in 24 orders", x.ever(0, 1), 24);
            due("with 2", x.ever(0, 3), 2);
            due("both", x.ever(0, 2), 0);
            told(x, 0, "wait when right = 1 and first = 1;");
            due("both where 0 is first", x.ever(0, 2), 12);
            told(x, 0, "wait when first = 1;");
            due("neither", x.ever(0, 1) + x.ever(0, 2), 0);
        });
        edge("ever at the most: 6 ROADS of 2 COMERS, 4 ROADS of 2", x -> {
            x.crossing(5, 6);
            for (int r = 0; r < 6; r++) {
                x.comer(5, r, (r + 3) % 6, 0, 0);
                x.comer(5, r, (r + 5) % 6, 0, 0);
            }
            due("729 less the empty one, in 6", x.ever(5, 0), 728 * 6);
            for (int r = 0; r < 4; r++) {
                x.comer(0, r, (r + 2) % 4, 0, 0);
                x.comer(0, r, (r + 3) % 4, 0, 0);
            }
            due("81 less the empty one, in 24", x.ever(0, 0), 80 * 24);
        });
        edge("LEAST STUCK, LEAST BOTH (NONE: there is none): asked again when there is none any more", x -> {
            two(x, 0);
            due("both", x.ever(0, 4), 2);
            told(x, 0, "wait;");
            due("stuck", x.ever(0, 3), 2);
            due("none that is both", x.ever(0, 4), NONE);
            due("none to lay", x.lay(0, 1), false);
            told(x, 0, "wait when first = 1;");
            due("none that is stuck", x.ever(0, 3), NONE);
            due("none to lay", x.lay(0, 0), false);
        });
        edge("ever: NONE if one can't be, or another what", x -> {
            two(x, 0);
            due("what 5", x.ever(0, 5), NONE);
            due("what -1", x.ever(0, -1), NONE);
            due("crossing 6", x.ever(6, 0), NONE);
            due("crossing -1", x.ever(-1, 0), NONE);
        });
    }

    private static void laying() {
        edge("lay: false, and nothing is done, if there is none, or one can't be", x -> {
            told(x, 0, "wait when first = 1;");
            two(x, 0);
            x.cart(0, 3, 1, 2, 5, 50, 1);
            for (int which : new int[] {LEAST, -1, 0, 1, 2, MOST}) {
                due("lay(0, " + which + ")", x.lay(0, which), false);
            }
            due("lay(6, 0)", x.lay(6, 0), false);
            due("lay(-1, 0)", x.lay(-1, 0), false);
            due("carts", x.now(0, 3), 8);
            due("rank", x.of(0, 3, 3), 50);
            told(x, 0, "wait;");
            due("no LEAST BOTH", x.lay(0, 1), false);
            due("carts", x.now(0, 3), 8);
            told(x, 0, "go;");
            due("no LEAST STUCK", x.lay(0, 0), false);
            due("carts", x.now(0, 3), 8);
            due("LEAST BOTH", x.lay(0, 1), true);
            due("in place of its CARTS", x.now(0, 3), 3);
        });
        edge("is laid on the crossing, in place of its CARTS (STAY 0)", x -> {
            told(x, 0, "wait;");
            x.comer(0, 0, 2, 1, 7);
            x.comer(0, 1, 3, 3, 9);
            x.cart(0, 0, 1, 0, 0, 77, 1);
            x.cart(0, 3, 1, 0, 0, 77, 1);
            x.run(0, 5);
            due("a STAY ahead", x.of(0, 0, 5) > 0, true);
            due("lay", x.lay(0, 0), true);
            int[][] are = {{2, 1, 7, 0, 0, 0}, {3, 3, 9, 1, 0, 0}};
            for (int r = 0; r < 2; r++) {
                for (int what = 0; what < 6; what++) {
                    due("of(0, " + r + ", " + what + ")", x.of(0, r, what), are[r][what]);
                }
            }
            due("carts", x.now(0, 3), 3);
            due("stuck", x.now(0, 1), 1);
            x.run(0, 1);
            due("lay again", x.lay(0, 0), true);
            due("STAY", x.of(0, 0, 5), 0);
        });
        edge("in place of its CARTS: on no ROAD one is left, be it the first or the last", x -> {
            x.crossing(1, 6);
            told(x, 0, "wait;");
            x.comer(1, 2, 4, 0, 0);
            x.comer(1, 3, 4, 0, 0);
            for (int r = 0; r < 6; r++) {
                x.cart(1, r, (r + 3) % 6, 0, 0, 0, 1);
            }
            due("lay", x.lay(1, 0), true);
            due("carts", x.now(1, 3), 12);
        });
    }

    /** Who is ahead waits, but of the last and the first size the last one: stuck in just the order of their sizes. */
    private static void oneOrder() {
        String told = "go when size = 0 and osize = roads - 1; wait when size = roads - 1 and osize = 0;"
            + "wait when first = 0;";
        for (int n = 3; n < 5; n++) {
            for (int last = 0; last < 2; last++) {
                int roads = n;
                boolean down = last == 1;
                edge("all orders of the ROADS: the first one, the last one", x -> {
                    told(x, 2, told);
                    x.land(0, 2);
                    x.crossing(4, roads);
                    for (int r = 0; r < roads; r++) {
                        x.comer(4, r, roads == 3 ? (r + 2) % 3 : (r + 2) % 4, 0, 0);
                        x.road(4, r, SIZE, down ? roads - 1 - r : r);
                    }
                    due("in one order", x.ever(4, 1), 1);
                    due("with all", x.ever(4, 3), roads);
                    due("never both", x.ever(4, 2), 0);
                    due("lay", x.lay(4, 0), true);
                    for (int r = 0; r < roads; r++) {
                        due("rank of " + r, x.of(4, r, 3), down ? roads - 1 - r : r);
                    }
                    due("HOLDS", x.holds(2), 47);
                    due("BORDER", x.border(4, 0) > 0, true);
                    due("SIGNS", x.signs(4), NONE);
                    x.comer(4, 1, NONE, 0, 0);
                    due("without one", x.holds(2), 63);
                    due("SIGNS", x.signs(4), 0);
                });
            }
        }
    }

    private static void knots() {
        edge("each ROAD is empty or has one of its COMERS: two of one ROAD aren't there at once", x -> {
            told(x, 0, "wait when oload = load + 1 or load = 4 and oload = 1;");
            told(x, 1, "go;");
            // a ring of four, but those with loads 1 and 3 come by one road
            x.comer(0, 0, 2, 0, 1);
            x.comer(0, 1, 3, 0, 2);
            x.comer(0, 0, 2, 0, 3);
            x.comer(0, 3, 1, 0, 4);
            due("STUCK", x.ever(0, 1), 0);
            due("BOTH", x.ever(0, 2), 0);
            due("HOLDS", x.holds(0), 63);
            due("SIGNS", x.signs(0), 0);
            due("MUTUAL", x.mutual(0), 0);
            // by a road each they are
            x.comer(5, 0, 2, 0, 1);
            x.comer(5, 1, 3, 0, 2);
            x.comer(5, 2, 0, 0, 3);
            x.comer(5, 3, 1, 0, 4);
            due("STUCK, in 24 orders", x.ever(5, 1), 24);
            due("HOLDS", x.holds(0), 31);
            due("SIGNS", x.signs(5), NONE);
        });
    }

    private static void landsOfRoads() {
        for (int n = 4; n < 7; n += 2) {
            for (int road = 0; road < n; road++) {
                int roads = n;
                int r = road;
                edge("by the RULES of the LANDS: each CART by that of its own ROAD", x -> {
                    x.crossing(0, roads);
                    told(x, 1, "wait;");
                    for (int q = 0; q < roads; q++) {
                        x.comer(0, q, (q + roads / 2) % roads, 0, 0);
                        x.comer(0, q, (q + roads / 2) % roads, 0, 0);
                    }
                    x.road(0, r, LAND, 1);
                    due("STARVE", x.starve(0), 1 << r);
                    for (int q = 0; q < roads; q++) {
                        due("ODDS of " + q, x.odds(0, q) > 0, q == r);
                    }
                });
            }
        }
    }

    /** What is told of all that can come, by each call that looks at it. */
    private static int[] allTold(FourPalms x, int c) {
        return new int[] {x.ever(c, 0), x.ever(c, 1), x.ever(c, 2), x.ever(c, 3), x.ever(c, 4), x.odds(c, 0), x.odds(c, 1),
            x.mutual(c), x.used(0, c), x.holds(0), x.starve(c), x.shortest(63, 0), x.shortest(63, 2), x.sound(63, 2),
            x.signs(c), x.border(c, 0), x.border(c, 1)};
    }

    private static void standing() {
        edge("(CARTS that stand there stay as they are.)", x -> {
            told(x, 0, "wait when right = 1;");
            comersToTheLeft(x, 0, 4);
            int[] before = allTold(x, 0);
            for (int r = 0; r < 4; r++) {
                x.cart(0, r, (r + 2) % 4, r, r, 90 + r, 1);
            }
            int[] after = allTold(x, 0);
            for (int i = 0; i < before.length; i++) {
                due("the " + i + "th with CARTS there", after[i], before[i]);
            }
            for (int r = 0; r < 4; r++) {
                int[] are = {(r + 2) % 4, r, r, 90 + r, 1, 0};
                for (int what = 0; what < 6; what++) {
                    due("of(0, " + r + ", " + what + ")", x.of(0, r, what), are[what]);
                }
            }
        });
        edge("in place of theirs: LANDS, SIGNS and RULES stay as they are", x -> {
            told(x, 0, "wait when sign = 1;");
            told(x, 1, "go;");
            two(x, 0);
            x.road(0, 1, SIGN, 2);
            x.road(0, 0, LAND, 1);
            allTold(x, 0);
            x.cart(0, 0, 2, 0, 0, 0, 0);
            x.cart(0, 1, 3, 0, 0, 0, 0);
            due("0 by rule 1, 1 by rule 0, its sign is stop", x.now(0, 0), 3);
            x.road(0, 0, LAND, 0);
            x.road(0, 0, SIGN, 1);
            due("0 by rule 0 at a yield", x.now(0, 0), 2);
            due("lines", x.look(0), 2);
        });
    }

    private static void odds() {
        edge("ODDS of a ROAD (NONE: it has no COMERS); NONE - 1 if one can't be", x -> {
            due("no comers", x.odds(0, 0), NONE);
            x.comer(0, 0, 2, 0, 0);
            due("alone it goes", x.odds(0, 0), 0);
            due("another road", x.odds(0, 1), NONE);
            due("road 4", x.odds(0, 4), NONE - 1);
            due("road -1", x.odds(0, -1), NONE - 1);
            due("crossing 6", x.odds(6, 0), NONE - 1);
            due("crossing -1", x.odds(-1, 0), NONE - 1);
            x.comer(0, 0, NONE, 0, 0);
            due("none any more", x.odds(0, 0), NONE);
        });
        edge("for how many of 1000 it MAY not GO: downwards", x -> {
            told(x, 0, "wait when right = 1;");
            two(x, 0);
            due("1 of 2", x.odds(0, 0), 500);
            x.comer(0, 1, 0, 0, 0);
            due("2 of 3", x.odds(0, 0), 666);
            x.comer(0, 0, 1, 0, 0);
            due("of two comers one fights with none", x.odds(0, 0), 333);
            due("1 never waits", x.odds(0, 1), 0);
        });
        edge("ODDS of the last ROAD: of its own COMERS", x -> {
            told(x, 0, "wait when load = 7;");
            x.crossing(0, 6);
            x.comer(0, 5, 2, 0, 7);
            x.comer(0, 5, 2, 0, 8);
            x.comer(0, 4, 1, 0, 0);
            x.comer(0, 4, 1, 0, 7);
            x.comer(0, 3, 0, 0, 7);
            due("5: one of two comers, unless 4 and 3 are empty", x.odds(0, 5), 1000 * 5 / 12);
            due("4: one of two comers, unless 5 and 3 are empty", x.odds(0, 4), 1000 * 5 / 12);
            due("3: unless 4 and 5 are empty", x.odds(0, 3), 1000 * 8 / 9);
        });
    }

    private static void mutual() {
        edge("couples: of the second COMER of a ROAD and the first of the next one", x -> {
            told(x, 0, "wait;");
            x.crossing(5, 6);
            x.comer(5, 3, 4, 0, 0);
            x.comer(5, 3, 0, 0, 0);
            x.comer(5, 4, 0, 0, 0);
            x.comer(5, 5, 0, 0, 0);
            due("3 and 4, 3 and 5, 4 and 5 in 6 orders, the last ones with 3 empty, to the right, straight",
                x.mutual(5), 6 * (2 + 2 + 3));
        });
        edge("how many couples of CARTS (over all of ALL THAT CAN COME) WAIT for each other", x -> {
            due("nobody comes", x.mutual(0), 0);
            told(x, 0, "wait;");
            x.comer(0, 0, 2, 0, 0);
            due("one", x.mutual(0), 0);
            x.comer(0, 1, 3, 0, 0);
            due("a couple, in 24 orders", x.mutual(0), 24);
            x.comer(0, 2, 0, 0, 0);
            due("0 and 1, 1 and 2, each with and without the third", x.mutual(0), 96);
            told(x, 0, "wait when right = 1;");
            due("one of each couple waits", x.mutual(0), 0);
            due("crossing 6", x.mutual(6), NONE);
            due("crossing -1", x.mutual(-1), NONE);
        });
    }

    private static void used() {
        edge("Lines of a RULE that are USED, as a set: up to the 16th", x -> {
            StringBuilder text = new StringBuilder();
            for (int i = 0; i < 15; i++) {
                text.append("go when load=9;");
            }
            due("rule", told(x, 2, text + "wait;"), 16);
            due("nobody comes", x.used(2, 0), 0);
            two(x, 0);
            due("the 16th", x.used(2, 0), 32768);
            x.comer(0, 0, 2, 0, 9);
            due("the 1st, too", x.used(2, 0), 32769);
            due("an empty RULE", x.used(3, 0), 0);
            told(x, 3, "wait when load = 8;");
            due("a line that is never so", x.used(3, 0), 0);
        });
        edge("the first whose B is so: x may be first, or later, in each crossing", x -> {
            told(x, 0, "wait when first = 1; go;");
            told(x, 1, "wait when right = 1; go when left = 1;");
            told(x, 2, "wait when first = 0; go when first = 1; wait;");
            for (int n = 3; n < 7; n++) {
                x.crossing(0, n);
                x.comer(0, 0, 2, 0, 0);
                x.comer(0, 1, 2, 0, 0);
                due("first, and not", x.used(0, 0), 3);
                due("at the right, at the left", x.used(1, 0), 3);
                due("no third line", x.used(2, 0), 3);
            }
        });
        edge("for some CART x and another one y whose WAYS FIGHT", x -> {
            told(x, 0, "wait when right = 1; go when left = 1; wait;");
            x.comer(0, 0, 2, 0, 0);
            x.comer(0, 2, 0, 0, 0);
            due("they don't fight", x.used(0, 0), 0);
            x.comer(0, 1, 0, 0, 0);
            due("0 has 1 on the right, 1 has 0 on the left", x.used(0, 0), 3);
            x.comer(0, 2, 1, 0, 0);
            due("two comers of a road aren't there at once", x.used(0, 0), 7);
        });
        edge("used: NONE if one can't be", x -> {
            two(x, 0);
            due("rule 4", x.used(4, 0), NONE);
            due("rule -1", x.used(-1, 0), NONE);
            due("crossing 6", x.used(0, 6), NONE);
            due("crossing -1", x.used(0, -1), NONE);
            due("rule 3 at crossing 5", x.used(3, 5), 0);
        });
    }

    private static void holds() {
        edge("HOLDS of a RULE, as a set (CROSSINGS without COMERS are of it); NONE if one can't be", x -> {
            due("no comers at all", x.holds(0), 63);
            told(x, 3, "wait when first = 1;");
            for (int c = 0; c < 6; c++) {
                two(x, c);
                due("without those up to " + c, x.holds(0), 63 & ~((2 << c) - 1));
                due("rule 3", x.holds(3), 63);
            }
            due("rule 4", x.holds(4), NONE);
            due("rule -1", x.holds(-1), NONE);
            due("rule MAX", x.holds(MOST), NONE);
        });
        edge("with this RULE in place of all others there: whatever the LANDS", x -> {
            two(x, 0);
            x.road(0, 0, LAND, 1);
            told(x, 1, "wait;");
            told(x, 2, "wait when right = 1;");
            due("rule 2", x.holds(2), 63);
            due("rule 1", x.holds(1), 62);
        });
    }

    private static void starve() {
        edge("with just these two there, x first, x WAITS for y and y does not for x", x -> {
            due("nobody comes", x.starve(0), 0);
            two(x, 0);
            String[] rules = {"", "wait;", "wait when first = 1;", "wait when first = 0;", "wait when right = 1;",
                "wait when right = 1 and first = 0;", "wait when right = 1 and first = 1;",
                "wait when right = 1 or first = 1;", "wait when left = 1;", "go when first = 1; wait when right = 1;"};
            int[] sets = {0, 0, 0, 3, 1, 1, 0, 0, 2, 1};
            for (int i = 0; i < rules.length; i++) {
                told(x, 0, rules[i]);
                due("by " + rules[i], x.starve(0), sets[i]);
            }
            due("crossing 6", x.starve(6), NONE);
            due("crossing -1", x.starve(-1), NONE);
        });
        edge("ROADS with a COMER x for which there is a COMER y of another ROAD: one is enough", x -> {
            told(x, 0, "wait when load < oload;");
            x.crossing(0, 6);
            x.comer(0, 5, 2, 0, 9);
            x.comer(0, 5, 2, 0, 3);
            x.comer(0, 4, 1, 0, 3);
            x.comer(0, 4, 1, 0, 2);
            due("4", x.starve(0), 16);
            x.comer(0, 4, NONE, 0, 0);
            due("not by its own other comer", x.starve(0), 0);
            x.comer(0, 4, 1, 0, 4);
            due("5 with load 3, 4 for load 9", x.starve(0), 48);
        });
    }

    /** Whether by WORD and wait alone two straight comers from roads 0 and 1 are sound: it is so for just one of them. */
    private static void words() {
        edge("WORDS 0 .. 7: 0 right, 1 left, 2 first", x -> {
            two(x, 0);
            due("right", x.sound(1, 1), 1);
            due("left", x.sound(1, 2), 1);
            due("first", x.sound(1, 3), 1);
            for (int word = 3; word < 8; word++) {
                due("word " + word + " is so for none", x.sound(1, word + 1), 0);
            }
            for (int word = 0; word < 8; word++) {
                due("go when word " + word, x.sound(1, word + 9), 0);
            }
            x.comer(0, 1, NONE, 0, 0);
            x.comer(0, 2, 1, 0, 0);
            due("that ahead is at no side: no right", x.sound(1, 1), 0);
            due("no left", x.sound(1, 2), 0);
            due("first", x.sound(1, 3), 1);
        });
    }

    /** That a WORD is so for 0 of 1 (it is to the right), and for 1 of 0 (to the left). */
    private static void so(FourPalms x, int word, boolean ofOne, boolean ofNought) {
        // go if it is so, else wait for the one to the right, to the left: sound, unless it is so
        due("word " + word + " for 0 of 1", x.sound(1, 17 * (word + 9) + 1), ofOne ? 0 : 1);
        due("word " + word + " for 1 of 0", x.sound(1, 17 * (word + 9) + 2), ofNought ? 0 : 1);
        due("word " + word + " alone", x.sound(1, word + 1), ofOne != ofNought ? 1 : 0);
    }

    private static void truths() {
        edge("3 osize above size", x -> {
            two(x, 0);
            for (int i = 0; i < 16; i++) {
                x.road(0, 0, SIZE, i / 4);
                x.road(0, 1, SIZE, i % 4);
                so(x, 3, i % 4 > i / 4, i / 4 > i % 4);
                so(x, 6, false, false);
                so(x, 7, false, false);
            }
        });
        edge("4 oturn 0 and turn not 0, 5 turn 2 and oturn not 2", x -> {
            int[] turns = {0, 1, 0, 2};
            for (int a = 1; a < 4; a++) {
                for (int b = 1; b < 4; b++) {
                    x.crossing(0, 4);
                    x.comer(0, 0, a, 0, 0);
                    x.comer(0, 1, (1 + b) % 4, 0, 0);
                    if (x.fight(0, 0, a, 1, (1 + b) % 4) == 1) {
                        int p = turns[a];
                        int q = turns[b];
                        so(x, 4, q == 0 && p != 0, p == 0 && q != 0);
                        so(x, 5, p == 2 && q != 2, q == 2 && p != 2);
                    }
                }
            }
        });
        edge("turn 2: also of those that don't stand next to each other", x -> {
            x.comer(0, 0, 3, 0, 0);
            x.comer(0, 2, 0, 0, 0);
            due("left waits for straight", x.sound(1, 5) + x.sound(1, 6), 2);
            x.comer(0, 2, NONE, 0, 0);
            x.comer(0, 2, 3, 0, 0);
            due("left and right: word 4", x.sound(1, 5), 0);
            due("left and right: word 5", x.sound(1, 6), 1);
        });
        edge("6 oload above load", x -> {
            int[][] loads = {{0, 0}, {9, 9}, {0, 1}, {1, 0}, {8, 9}, {9, 8}, {0, 9}};
            for (int[] load : loads) {
                x.crossing(0, 4);
                x.comer(0, 0, 2, 3, load[0]);
                x.comer(0, 1, 3, 0, load[1]);
                so(x, 6, load[1] > load[0], load[0] > load[1]);
                so(x, 3, false, false);
                so(x, 7, false, false);
            }
        });
        edge("7 osign 0 and sign not 0", x -> {
            x.comer(0, 0, 2, 1, 0);
            x.comer(0, 1, 3, 2, 0);
            for (int i = 0; i < 9; i++) {
                x.road(0, 0, SIGN, i / 3);
                x.road(0, 1, SIGN, i % 3);
                so(x, 7, i % 3 == 0 && i / 3 != 0, i / 3 == 0 && i % 3 != 0);
                so(x, 3, false, false);
                so(x, 6, false, false);
            }
        });
    }

    private static void wordings() {
        edge("sound: a WORDING (1 .. 288; of two: both 1 .. 16), for a set of CROSSINGS: NONE if one can't be", x -> {
            for (int wording = -1; wording < 291; wording++) {
                boolean can = wording > 0 && wording < 289 && wording % 17 != 0;
                due("sound(1, " + wording + "), nobody comes", x.sound(1, wording), can ? 1 : NONE);
            }
            due("sound(1, MIN)", x.sound(1, LEAST), NONE);
            due("sound(1, MAX)", x.sound(1, MOST), NONE);
            for (int set : new int[] {LEAST, -1, 0, 64, 65, 127, MOST}) {
                due("sound(" + set + ", 1)", x.sound(set, 1), NONE);
            }
            due("sound(63, 1)", x.sound(63, 1), 1);
            due("sound(32, 1)", x.sound(32, 1), 1);
        });
        edge("As numbers: WORD and 8 for go, and 1; of two 17 times the first one and the second one", x -> {
            two(x, 0);
            due("right wait", x.sound(1, 1), 1);
            due("left wait, which number 16 isn't", x.sound(1, 16), 0);
            due("right wait, right wait", x.sound(1, 18), 1);
            due("right wait, left wait: both wait", x.sound(1, 17 + 2), 0);
            due("right wait, left go", x.sound(1, 17 + 10), 1);
            due("right go, left wait", x.sound(1, 17 * 9 + 2), 1);
            due("right go, right wait", x.sound(1, 17 * 9 + 1), 0);
            due("sign go, right wait", x.sound(1, 17 * 16 + 1), 1);
            due("right wait, sign go", x.sound(1, 17 + 16), 1);
            due("sign go, sign go", x.sound(1, 288), 0);
            due("sign wait, right wait", x.sound(1, 17 * 8 + 1), 1);
            due("sign wait, right go", x.sound(1, 17 * 8 + 9), 0);
            due("sign wait, sign wait", x.sound(1, 17 * 8 + 8), 0);
            due("sign wait, first wait", x.sound(1, 17 * 8 + 3), 1);
        });
        edge("for a set of CROSSINGS: of ALL THAT CAN COME to all of them", x -> {
            two(x, 5);
            due("without 5", x.sound(31, 4), 1);
            due("5 alone", x.sound(32, 4), 0);
            due("with 5", x.sound(63, 4), 0);
            due("with 5, by right", x.sound(63, 1), 1);
        });
        edge("without one no CART WAITS; in place of all RULES", x -> {
            told(x, 0, "wait when right = 1;");
            two(x, 0);
            due("no word is so", x.sound(1, 7), 0);
            told(x, 0, "wait;");
            due("right", x.sound(1, 1), 1);
        });
    }

    private static void shortest() {
        edge("SHORTEST: the least number of a SOUND one; RIVALS: how many others with as many WORDS are SOUND", x -> {
            due("nobody comes: 1", x.shortest(1, 0), 1);
            due("of one WORD", x.shortest(1, 1), 1);
            due("all 15 others", x.shortest(1, 2), 15);
            two(x, 0);
            due("right", x.shortest(1, 0), 1);
            due("left and first", x.shortest(1, 2), 2);
            x.comer(0, 2, 1, 0, 0);
            due("0 and 2 fight: first", x.shortest(1, 0), 3);
            due("no other one", x.shortest(1, 2), 0);
            due("of one WORD", x.shortest(1, 1), 1);
        });
        edge("SHORTEST: not that it waits for the one to the right, but left", x -> {
            told(x, 0, "wait when first = 1;");
            for (int r = 0; r < 3; r++) {
                x.comer(0, r, (r + 2) % 4, 0, 0);
            }
            due("0, 1 and 2 don't stand in a ring", x.shortest(1, 0), 1);
            x.comer(0, 3, 1, 0, 0);
            due("all four do", x.shortest(1, 0), 3);
            x.crossing(1, 3);
            x.comer(1, 0, 2, 0, 0);
            x.comer(1, 1, 0, 0, 0);
            due("two of three", x.shortest(2, 0), 1);
            due("with the four", x.shortest(3, 0), 3);
        });
        edge("shortest: NONE if one can't be, or another what (1 .. 63)", x -> {
            for (int set : new int[] {LEAST, -1, 0, 64, MOST}) {
                due("shortest(" + set + ", 0)", x.shortest(set, 0), NONE);
            }
            for (int what : new int[] {LEAST, -1, 3, MOST}) {
                due("shortest(1, " + what + ")", x.shortest(1, what), NONE);
            }
            due("shortest(63, 0)", x.shortest(63, 0), 1);
            due("shortest(32, 2)", x.shortest(32, 2), 15);
        });
    }

    private static void signs() {
        edge("SIGNS of a CROSSING; NONE if there is no such set, or one can't be", x -> {
            due("nobody comes: none needed", x.signs(0), 0);
            two(x, 0);
            due("no RULE asks for them", x.signs(0), NONE);
            told(x, 0, "wait when first = 1;");
            due("none needed", x.signs(0), 0);
            told(x, 0, "wait when sign = 1 and osign = 0;");
            due("of several the least", x.signs(0), 1);
            told(x, 0, "wait when sign = 2;");
            due("yields are no stops", x.signs(0), NONE);
            due("crossing 6", x.signs(6), NONE);
            due("crossing -1", x.signs(-1), NONE);
        });
        edge("(ROAD r counts 2 to the r) ... in place of all SIGNS there: all ROADS, the last ones", x -> {
            told(x, 0, "wait when sign = 1 and osign = 1 and first = 1;");
            comersToTheLeft(x, 0, 3);
            for (int r = 0; r < 3; r++) {
                x.road(0, r, SIGN, 1 + r % 2);
            }
            due("all three", x.signs(0), 7);
            x.crossing(1, 6);
            x.comer(1, 5, 2, 0, 0);
            x.comer(1, 4, 1, 0, 0);
            due("ROADS 4 and 5", x.signs(1), 48);
        });
        edge("that with the fewest, of several the least", x -> {
            told(x, 0, "wait when sign = 1 and osign = 0 or sign = 0 and osign = 0 and right = 1 and size = 1;");
            x.crossing(1, 6);
            x.comer(1, 5, 2, 0, 0);
            x.comer(1, 4, 1, 0, 0);
            due("ROAD 5 would do, too", x.signs(1), 16);
            x.road(1, 4, SIZE, 1);
            due("now none is needed", x.signs(1), 0);
            told(x, 0, "wait when sign = 1 and left = 1;");
            due("just ROAD 5, though 4 with others is less", x.signs(1), 32);
            told(x, 0, "wait when sign = 1 and osign = 1 and first = 1 or sign = 1 and left = 1 and osign = 0 and size = 3;");
            x.road(1, 5, SIZE, 3);
            due("ROAD 5 alone is fewer than 4 and 5", x.signs(1), 32);
        });
    }

    private static void borders() {
        edge("BORDER what 0 for how many, 1 the least such (NONE): of all 2 to the n ways", x -> {
            due("nobody comes", x.border(0, 0), 0);
            due("nobody comes", x.border(0, 1), NONE);
            for (int n = 3; n < 7; n++) {
                comersToTheLeft(x, 1, n);
                due("no rule: all 2 to the " + n, x.border(1, 0), 1 << n);
                due("the least", x.border(1, 1), 0);
            }
            told(x, 0, "wait when first = 1;");
            due("land 0 alone is good, and one road of land 1 not", x.border(1, 0), 63);
            due("the least", x.border(1, 1), 1);
            told(x, 1, "wait when first = 1;");
            due("both are good", x.border(1, 0), 0);
            due("none", x.border(1, 1), NONE);
            told(x, 0, "");
            x.crossing(2, 3);
            x.comer(2, 0, 2, 0, 0);
            x.comer(2, 1, 2, 0, 0);
            due("just both of land 1 are good, 2 is nothing to it", x.border(2, 0), 6);
            due("what 2", x.border(1, 2), NONE);
            due("what -1", x.border(1, -1), NONE);
            due("crossing 6", x.border(6, 0), NONE);
            due("crossing -1", x.border(-1, 1), NONE);
        });
        edge("the least such: the last set of them", x -> {
            told(x, 0, "wait when first = 1;");
            told(x, 1, "wait when first = 1 or size = 3 and osize = 2;");
            x.comer(0, 2, 0, 0, 0);
            x.comer(0, 3, 1, 0, 0);
            x.road(0, 2, SIZE, 2);
            x.road(0, 3, SIZE, 3);
            due("where ROAD 3 is of land 1", x.border(0, 0), 8);
            due("the least such", x.border(0, 1), 8);
            x.land(1, 0);
            due("both lands have rule 0", x.border(0, 1), NONE);
        });
    }
}
