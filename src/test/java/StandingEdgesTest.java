/** The edges of carts as they stand: who waits, who may go, circles, clearing, goings judged; promises 13 to 18. */
public final class StandingEdgesTest extends Asking {
    public static void main(String[] args) {
        waiting();
        going();
        circles();
        longCircles();
        meanings();
        clearing();
        judging();
        judgedSets();
        close();
    }

    /** Carts that all go straight over a crossing of four roads or six. */
    private static void straight(FourPalms x, int c, int n, int habit) {
        for (int r = 0; r < n; r++) {
            x.cart(c, r, (r + n / 2) % n, 0, 0, 0, habit);
        }
    }

    private static void waiting() {
        edge("waits: NONE if one can't be (no CART)", x -> {
            due("no carts", x.waits(0, 0, 1), NONE);
            x.cart(0, 0, 2, 0, 0, 0, 1);
            due("no other one", x.waits(0, 0, 1), NONE);
            due("not that one", x.waits(0, 1, 0), NONE);
            x.cart(0, 1, 3, 0, 0, 0, 0);
            due("both", x.waits(0, 0, 1), 1);
            due("both", x.waits(0, 1, 0), 0);
            due("for itself", x.waits(0, 0, 0), NONE);
            due("road 4", x.waits(0, 0, 4), NONE);
            due("road 4", x.waits(0, 4, 0), NONE);
            due("road -1", x.waits(0, 0, -1), NONE);
            due("road -1", x.waits(0, -1, 0), NONE);
            due("crossing 6", x.waits(6, 0, 1), NONE);
            due("crossing -1", x.waits(-1, 0, 1), NONE);
        });
        edge("Who waves waits for all whose WAYS FIGHT with its own: for no other one", x -> {
            straight(x, 0, 4, 1);
            for (int r = 0; r < 4; r++) {
                due("for the next one", x.waits(0, r, (r + 1) % 4), 1);
                due("for that ahead", x.waits(0, r, (r + 2) % 4), 0);
                due("for the one to the left", x.waits(0, r, (r + 3) % 4), 1);
            }
            told(x, 0, "go;");
            due("whatever the rule", x.waits(0, 0, 1), 1);
        });
    }

    private static void going() {
        edge("A CART MAY GO, if it WAITS for none", x -> {
            told(x, 0, "wait;");
            x.cart(0, 0, 2, 0, 0, 0, 1);
            due("alone", x.now(0, 0), 1);
            x.cart(0, 2, 0, 0, 0, 0, 1);
            due("two that don't fight", x.now(0, 0), 5);
            x.cart(0, 1, 3, 0, 0, 0, 2);
            due("one that both wait for", x.now(0, 0), 2);
        });
        edge("STUCK is a CROSSING with CARTS of which none MAY GO", x -> {
            due("no carts", x.now(0, 1), 0);
            x.cart(0, 0, 2, 0, 0, 0, 1);
            due("one, which waves", x.now(0, 1), 0);
            x.cart(0, 1, 3, 0, 0, 0, 1);
            due("two that wave", x.now(0, 1), 1);
            due("who may go", x.now(0, 0), 0);
            due("who stands there", x.now(0, 3), 3);
            x.cart(0, 1, 3, 0, 0, 0, 0);
            due("one of two waves", x.now(0, 1), 0);
        });
        edge("BOTH, if two whose WAYS FIGHT MAY GO", x -> {
            due("no carts", x.now(0, 2), 0);
            x.cart(0, 0, 2, 0, 0, 0, 0);
            due("one", x.now(0, 2), 0);
            x.cart(0, 2, 0, 0, 0, 0, 0);
            due("two that don't fight", x.now(0, 2), 0);
            x.cart(0, 1, 3, 0, 0, 0, 1);
            due("one that fights, but may not go", x.now(0, 2), 0);
            x.cart(0, 1, 3, 0, 0, 0, 0);
            due("one that may", x.now(0, 2), 1);
            due("and isn't stuck", x.now(0, 1), 0);
        });
        edge("now: what 0 .. 3; NONE if one can't be, or another what", x -> {
            x.crossing(5, 6);
            x.cart(5, 5, 0, 0, 0, 0, 0);
            due("road 5 as a set", x.now(5, 0), 32);
            due("road 5 as a set", x.now(5, 3), 32);
            due("what 4", x.now(5, 4), NONE);
            due("what -1", x.now(5, -1), NONE);
            due("crossing 6", x.now(6, 0), NONE);
            due("crossing -1", x.now(-1, 3), NONE);
        });
    }

    private static void circles() {
        edge("CIRCLE what 0 of how many (0 without), 10 + i the i-th ROAD: NONE if there is none such", x -> {
            due("no carts", x.circle(0, 0), 0);
            due("no carts", x.circle(0, 10), NONE);
            told(x, 0, "wait when right = 1;");
            straight(x, 0, 4, 0);
            due("four", x.circle(0, 0), 4);
            due("the 0th", x.circle(0, 10), 0);
            due("the 3rd", x.circle(0, 13), 3);
            due("the 4th", x.circle(0, 14), NONE);
            for (int what : new int[] {LEAST, -1, 1, 2, 9, MOST}) {
                due("what " + what, x.circle(0, what), NONE);
            }
            due("crossing 6", x.circle(6, 0), NONE);
            due("crossing -1", x.circle(-1, 0), NONE);
        });
        edge("or one MAY GO (no CIRCLE then)", x -> {
            told(x, 0, "wait when right = 1;");
            straight(x, 0, 4, 0);
            x.cart(0, 3, NONE, 0, 0, 0, 0);
            due("0 waits for 1, 1 for 2, which may go", x.circle(0, 0), 0);
            due("its ROAD", x.circle(0, 10), NONE);
            straight(x, 1, 4, 2);
            due("all may go", x.circle(1, 0), 0);
        });
        edge("one MAY GO (no CIRCLE then), though others stand in one", x -> {
            told(x, 0, "wait when size = 0 and osize = 3; wait when size = 1 and osize = 2; wait when size = 2 and osize = 1;");
            int[] sizes = {0, 1, 2, 3};
            for (int r = 0; r < 4; r++) {
                x.road(0, r, 0, sizes[r]);
            }
            straight(x, 0, 4, 0);
            due("0 waits for 3, which may go; 1 and 2 for each other", x.circle(0, 0), 0);
            x.cart(0, 0, NONE, 0, 0, 0, 0);
            due("without 0", x.circle(0, 0), 2);
            due("from the first ROAD whose CART MAY not GO", x.circle(0, 10), 1);
        });
        edge("always on to the least ROAD for whose CART it WAITS", x -> {
            straight(x, 0, 4, 1);
            due("each waits for two", x.circle(0, 0), 2);
            due("from 0", x.circle(0, 10), 0);
            due("to 1 and back, though 3 waits, too", x.circle(0, 11), 1);
            x.cart(0, 1, NONE, 0, 0, 0, 0);
            due("without 1", x.circle(0, 11), 3);
        });
        edge("those from that one on that comes again", x -> {
            told(x, 0, "wait when osize = size + 1; wait when size = 3 and osize = 2;");
            for (int r = 0; r < 4; r++) {
                x.road(0, r, 0, r);
            }
            straight(x, 0, 4, 0);
            due("0, 1 lead to 2 and 3", x.circle(0, 0), 2);
            due("the 0th", x.circle(0, 10), 2);
            due("the 1st", x.circle(0, 11), 3);
            due("the 2nd", x.circle(0, 12), NONE);
        });
    }

    private static void longCircles() {
        edge("CIRCLE of 6 and of 3: all ROADS", x -> {
            told(x, 0, "wait when right = 1;");
            x.crossing(1, 6);
            x.crossing(2, 3);
            straight(x, 1, 6, 0);
            for (int r = 0; r < 3; r++) {
                x.cart(2, r, (r + 2) % 3, 0, 0, 0, 0);
            }
            due("six", x.circle(1, 0), 6);
            due("the last one", x.circle(1, 15), 5);
            due("one more", x.circle(1, 16), NONE);
            due("three", x.circle(2, 0), 3);
            due("the last one", x.circle(2, 12), 2);
            due("one more", x.circle(2, 13), NONE);
        });
        edge("CIRCLE of ROADS that aren't next to each other", x -> {
            told(x, 0, "wait when oload = load + 1; wait when load = 4 and oload = 1;");
            x.crossing(0, 6);
            int[] roads = {0, 2, 3, 5};
            for (int i = 0; i < 4; i++) {
                x.cart(0, roads[i], (roads[i] + 3) % 6, 0, i + 1, 0, 0);
            }
            x.cart(0, 1, 4, 0, 0, 0, 0);
            x.cart(0, 4, 1, 0, 3, 0, 0);
            due("four", x.circle(0, 0), 4);
            for (int i = 0; i < 4; i++) {
                due("the ROAD " + i, x.circle(0, 10 + i), roads[i]);
            }
            due("no 4th", x.circle(0, 14), NONE);
        });
    }

    private static void meanings() {
        edge("MEANT by first: 0 RANK is less, 3 RANK is less or alike", x -> {
            told(x, 0, "wait when first = 1;");
            int[][] ranks = {{5, 5}, {5, 4}, {4, 5}, {0, 99}, {99, 0}};
            int[] less = {3, 2, 1, 1, 2};
            int[] alike = {0, 2, 1, 1, 2};
            for (int i = 0; i < ranks.length; i++) {
                x.cart(0, 0, 2, 0, 0, ranks[i][0], 0);
                x.cart(0, 1, 3, 0, 0, ranks[i][1], 0);
                due("meant(0, 0)", x.meant(0, 0), less[i]);
                due("meant(0, 1), stays alike", x.meant(0, 1), 3);
                due("meant(0, 2), nobody", x.meant(0, 2), 3);
                due("meant(0, 3)", x.meant(0, 3), alike[i]);
            }
        });
        edge("MEANT by first: 1 STAY is more", x -> {
            x.cart(0, 0, 2, 0, 0, 0, 1);
            x.cart(0, 1, 3, 0, 0, 0, 1);
            x.run(0, 1);
            told(x, 0, "wait when first = 1;");
            x.cart(0, 2, 1, 0, 0, 0, 0);
            due("stays", x.of(0, 0, 5) * 100 + x.of(0, 1, 5) * 10 + x.of(0, 2, 5), 110);
            due("2 waits for 1, of which the STAY is 1 more; who waves waits", x.meant(0, 1), 0);
            due("by RANKS alike it goes", x.meant(0, 0), 4);
            due("NOBODY is first", x.meant(0, 2), 4);
        });
        for (int early = 0; early < 4; early++) {
            for (int late = 0; late < 4; late++) {
                stays(early, late);
            }
        }
        edge("meant: first 0 .. 3; NONE if one can't be", x -> {
            due("nobody there", x.meant(0, 3), 0);
            for (int how : new int[] {LEAST, -1, 4, MOST}) {
                due("how " + how, x.meant(0, how), NONE);
            }
            due("crossing 6", x.meant(6, 0), NONE);
            due("crossing -1", x.meant(-1, 0), NONE);
        });
        edge("MEANT: who waves waits, who doesn't know does not, however it is meant", x -> {
            told(x, 0, "wait when first = 1;");
            x.cart(0, 0, 2, 0, 0, 9, 2);
            x.cart(0, 1, 3, 0, 0, 0, 1);
            for (int how = 0; how < 4; how++) {
                due("meant(0, " + how + ")", x.meant(0, how), 1);
            }
        });
    }

    /** Of two that fight one stays longer than the other one. */
    private static void stays(int early, int late) {
        if ((early + late) % 2 == 0) {
            return;
        }
        edge("MEANT by first: 1 STAY is more", x -> {
            told(x, 0, "wait;");
            x.cart(0, early, (early + 2) % 4, 0, 0, 50, 0);
            x.cart(0, late, (late + 2) % 4, 0, 0, 49, 0);
            x.run(0, 3);
            x.cart(0, late, (late + 2) % 4, 0, 0, 49, 0);
            x.run(0, 2);
            told(x, 0, "wait when first = 1;");
            due("STAY of " + early, x.of(0, early, 5), 5);
            due("STAY of " + late, x.of(0, late, 5), 2);
            due("by STAY", x.meant(0, 1), 1 << early);
            due("by RANK", x.meant(0, 0), 1 << late);
            x.cart(0, early, (early + 2) % 4, 0, 0, 50, 0);
            due("by STAY, which is 0 now", x.meant(0, 1), 1 << late);
        });
    }

    private static void cleared(FourPalms x, int c, int times, int left, int fights) {
        due("how many times", x.cleared(c, 0), times);
        due("how many are left", x.cleared(c, 1), left);
        due("how many times two fight", x.cleared(c, 2), fights);
    }

    private static void clearing() {
        edge("CLEARED, till there is none, or none MAY GO", x -> {
            cleared(x, 0, 0, 0, 0);
            x.cart(0, 0, 2, 0, 0, 0, 1);
            cleared(x, 0, 1, 0, 0);
            x.cart(0, 1, 3, 0, 0, 0, 1);
            cleared(x, 0, 0, 2, 0);
            x.cart(0, 3, 1, 0, 0, 0, 0);
            cleared(x, 0, 1, 2, 0);
            x.cart(0, 1, 3, 0, 0, 0, 0);
            cleared(x, 0, 2, 0, 0);
            x.cart(0, 2, 0, 0, 0, 0, 2);
            cleared(x, 0, 2, 0, 1);
        });
        edge("how many times: one by one of 6", x -> {
            told(x, 0, "wait when right = 1;");
            x.crossing(0, 6);
            straight(x, 0, 6, 0);
            cleared(x, 0, 0, 6, 0);
            x.cart(0, 5, 2, 0, 0, 0, 2);
            cleared(x, 0, 6, 0, 0);
        });
        edge("how many times two of those that left FIGHT: each time once", x -> {
            straight(x, 0, 4, 0);
            cleared(x, 0, 1, 0, 1);
            x.crossing(1, 6);
            told(x, 0, "wait when osize > size;");
            straight(x, 1, 6, 0);
            for (int r = 0; r < 6; r++) {
                x.road(1, r, 0, r / 2);
            }
            cleared(x, 1, 3, 0, 3);
        });
        edge("nothing of it stays", x -> {
            straight(x, 0, 4, 0);
            x.cart(0, 3, 1, 2, 3, 4, 1);
            x.cleared(0, 0);
            x.cleared(0, 1);
            x.cleared(0, 2);
            due("carts", x.now(0, 3), 15);
            due("rank", x.of(0, 3, 3), 4);
            due("stay", x.of(0, 3, 5), 0);
            due("gone", x.count(0, 3), 0);
            due("ticks", x.count(0, 0), 0);
        });
        edge("cleared: NONE if one can't be, or another what", x -> {
            due("what 3", x.cleared(0, 3), NONE);
            due("what -1", x.cleared(0, -1), NONE);
            due("crossing 6", x.cleared(6, 0), NONE);
            due("crossing -1", x.cleared(-1, 0), NONE);
        });
    }

    private static void judging() {
        edge("WRONG: the first ROAD of the set without a CART, or whose CART MAY not GO", x -> {
            x.cart(0, 1, 3, 0, 0, 0, 0);
            x.cart(0, 2, 0, 0, 0, 0, 1);
            due("0 has none", x.judge(0, 15), 0);
            due("2 may not go", x.judge(0, 14), 2);
            due("2 may not go, 3 has none", x.judge(0, 12), 2);
            due("3 has none", x.judge(0, 10), 3);
            due("nothing is done", x.now(0, 3), 6);
            due("1 may", x.judge(0, 2), NONE);
            due("it has left", x.now(0, 3), 4);
            due("now 2 may", x.judge(0, 4), NONE);
            due("nobody", x.now(0, 3), 0);
            due("now it has none", x.judge(0, 4), 2);
        });
        edge("else the first whose WAY FIGHTS with that of a greater one of the set", x -> {
            x.cart(0, 0, 1, 0, 0, 0, 0);
            x.cart(0, 1, 3, 0, 0, 0, 0);
            x.cart(0, 2, 0, 0, 0, 0, 0);
            due("0 fights with none, 1 with 2", x.judge(0, 7), 1);
            x.cart(0, 3, 0, 0, 0, 0, 0);
            due("2 with 3", x.judge(0, 13), 2);
            due("a ROAD without a CART before all that", x.judge(0, 15), 1);
            x.cart(0, 3, NONE, 0, 0, 0, 0);
            due("a ROAD without a CART before all that", x.judge(0, 15), 3);
            due("nothing is done", x.now(0, 3), 7);
            due("those of the set don't fight", x.judge(0, 3), NONE);
            due("those not of it stay", x.now(0, 3), 4);
        });
        edge("MAY not GO: from the CARTS as they are, also for those of the set", x -> {
            told(x, 0, "wait when right = 1;");
            x.cart(0, 0, 2, 0, 0, 0, 0);
            x.cart(0, 1, 3, 0, 0, 0, 0);
            due("0 waits for 1, which isn't of the set", x.judge(0, 1), 0);
            due("0 waits for 1, which is of it", x.judge(0, 3), 0);
            due("1 goes", x.judge(0, 2), NONE);
            due("then 0", x.judge(0, 1), NONE);
        });
    }

    private static void judgedSets() {
        for (int n = 3; n < 7; n++) {
            int roads = n;
            edge("judge: NONE - 1 if one can't be (an empty set)", x -> {
                x.crossing(4, roads);
                x.cart(4, roads - 1, 0, 0, 0, 0, 0);
                for (int set : new int[] {0, 1 << roads, (1 << roads) + 1, (1 << roads) | 1 << (roads - 1), -1, LEAST, MOST}) {
                    due("of " + roads + " roads set " + set, x.judge(4, set), NONE - 1);
                }
                due("all roads", x.judge(4, (1 << roads) - 1), 0);
                due("crossing 6", x.judge(6, 1), NONE - 1);
                due("crossing -1", x.judge(-1, 1), NONE - 1);
                due("nothing is done", x.now(4, 3), 1 << (roads - 1));
                due("the last road", x.judge(4, 1 << (roads - 1)), NONE);
                due("it has left", x.now(4, 3), 0);
            });
        }
        edge("If none is WRONG, these CARTS leave: by no TICK", x -> {
            x.cart(0, 0, 2, 0, 0, 0, 0);
            x.judge(0, 1);
            due("GONE", x.days(0, 0, 0), 0);
            due("GONE in all", x.count(0, 3), 0);
            due("TICKS", x.count(0, 0), 0);
        });
    }
}
