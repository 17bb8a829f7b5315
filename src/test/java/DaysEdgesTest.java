/** The edges of days, links, rings and the image: "Terms" 4 and promises 31 to 37. */
public final class DaysEdgesTest extends Asking {
    private static final int CHANCE = 4;
    private static final int LAND = 3;

    public static void main(String[] args) {
        draws();
        drawsWithoutSign();
        comings();
        fullRows();
        fronts();
        ranks();
        goings();
        waits();
        means();
        runs();
        links();
        ringRoads();
        ringLengths();
        leastRings();
        images();
        imagesAgain();
        looks();
        close();
    }

    private static int after(int state) {
        return (int) (1664525L * state + 1013904223L);
    }

    /** The DRAW from a state that has become this. */
    private static int drawn(int state, int m) {
        return (int) ((state & 0xffffffffL) / 256 % m);
    }

    /** A road whose comers never may go: a cart that waves stands on it and one that waves on the next road. */
    private static void closed(FourPalms x, int c) {
        x.cart(c, 0, 2, 0, 0, 0, 1);
        x.cart(c, 1, 3, 0, 0, 0, 1);
    }

    private static void draws() {
        for (int state : new int[] {0, 1, -1, LEAST, MOST, 99999, -99999}) {
            int first = after(state);
            int draw = drawn(first, 100);
            edge("a DRAW of 100; if it is below CHANCE", x -> {
                x.comer(0, 0, 2, 0, 0);
                x.state(state);
                x.road(0, 0, CHANCE, draw);
                due("chance as drawn, " + draw, x.run(0, 1), 0);
                due("one DRAW", x.look(3), first);
                x.state(state);
                x.road(0, 0, CHANCE, draw + 1);
                due("chance one above", x.run(0, 1), 1);
                due("and a DRAW of how many COMERS, be there one", x.look(3), after(first));
            });
            edge("a DRAW of how many COMERS: that one comes behind in the ROW", x -> {
                x.comer(0, 0, 2, 1, 3);
                x.comer(0, 0, 2, 2, 4);
                x.cart(0, 1, 0, 0, 0, 0, 1);
                x.road(0, 0, CHANCE, 100);
                told(x, 0, "wait;");
                x.state(state);
                x.run(0, 1);
                int which = drawn(after(first), 2);
                due("sort", x.of(0, 0, 1), 1 + which);
                due("load", x.of(0, 0, 2), 3 + which);
            });
        }
    }

    private static void drawsWithoutSign() {
        edge("its highest 24 bits (without sign) modulo m", x -> {
            int state = 0;
            while (after(state) >= 0) {
                state++;
            }
            x.comer(0, 0, 2, 0, 0);
            int first = after(state);
            due("below 0", first < 0, true);
            x.road(0, 0, CHANCE, drawn(first, 100));
            x.state(state);
            due("not below CHANCE", x.run(0, 1), 0);
            x.road(0, 0, CHANCE, drawn(first, 100) + 1);
            x.state(state);
            due("below CHANCE", x.run(0, 1), 1);
        });
        edge("a DRAW of how many COMERS: of those of that ROAD", x -> {
            told(x, 0, "wait;");
            x.crossing(0, 6);
            for (int r = 0; r < 6; r++) {
                x.comer(0, r, (r + 3) % 6, 0, r);
                if (r % 2 == 1) {
                    x.comer(0, r, (r + 3) % 6, 1, r);
                }
                x.road(0, r, CHANCE, 100);
            }
            x.run(0, 1);
            int state = 0;
            for (int r = 0; r < 6; r++) {
                state = after(after(state));
                due("load on " + r, x.of(0, r, 2), r);
                due("sort on " + r, x.of(0, r, 1), r % 2 == 0 ? 0 : drawn(state, 2));
            }
        });
        edge("a DRAW of how many COMERS: each of two is drawn", x -> {
            x.comer(0, 0, 2, 0, 1);
            x.comer(0, 0, 2, 0, 2);
            x.road(0, 0, CHANCE, 100);
            x.cart(0, 1, 3, 0, 0, 0, 2);
            told(x, 0, "wait;");
            int state = 0;
            int seen = 0;
            for (int i = 0; i < 30; i++) {
                x.cart(0, 0, NONE, 0, 0, 0, 0);
                x.cart(0, 1, 3, 0, 0, 0, 2);
                x.run(0, 1);
                state = after(after(state));
                due("load", x.of(0, 0, 2), 1 + drawn(state, 2));
                seen |= x.of(0, 0, 2);
            }
            due("both", seen, 3);
            due("state", x.look(3), state);
        });
    }

    private static void comings() {
        edge("for each ROAD, 0 first, with COMERS: none without", x -> {
            for (int r = 0; r < 4; r++) {
                x.road(0, r, CHANCE, 100);
            }
            due("nobody", x.run(0, 60), 0);
            due("no DRAW", x.look(3), 0);
            x.comer(0, 3, 1, 0, 0);
            due("one a tick", x.run(0, 1), 1);
            due("two DRAWS", x.look(3), after(after(0)));
            x.comer(0, 3, NONE, 0, 0);
            due("none any more", x.run(0, 9), 0);
            due("no DRAW", x.look(3), after(after(0)));
        });
        edge("for each ROAD, 0 first", x -> {
            // of two roads just that comes for which the draw is below its chance, in the order of the roads
            int one = after(0);
            int two = after(one);
            x.comer(0, 1, 3, 0, 0);
            x.comer(0, 2, 0, 0, 0);
            x.road(0, 1, CHANCE, drawn(one, 100));
            x.road(0, 2, CHANCE, drawn(two, 100) + 1);
            x.run(0, 1);
            due("road 1 by the first DRAW", x.days(0, 1, 0), 0);
            due("road 2 by the second DRAW", x.days(0, 2, 0), 1);
            due("three DRAWS", x.look(3), after(two));
        });
        edge("CHANCE 0: never; 100: always", x -> {
            x.comer(0, 0, 2, 0, 0);
            x.comer(0, 1, 3, 0, 0);
            x.road(0, 1, CHANCE, 100);
            for (int i = 0; i < 5; i++) {
                due("run", x.run(0, 60), 60);
            }
            due("road 0", x.days(0, 0, 0), 0);
            due("road 1", x.days(0, 1, 0), 300);
        });
    }

    private static void fullRows() {
        edge("behind in the ROW (if it has fewer than 20)", x -> {
            closed(x, 0);
            x.comer(0, 0, 2, 0, 5);
            x.road(0, 0, CHANCE, 100);
            x.run(0, 19);
            due("19", x.days(0, 0, 4), 19);
            x.run(0, 1);
            due("20", x.days(0, 0, 4), 20);
            x.run(0, 1);
            due("20 yet", x.days(0, 0, 4), 20);
            int state = x.look(3);
            x.run(0, 1);
            due("both DRAWS, though it is full", x.look(3), after(after(state)));
            x.run(0, 60);
            due("20 yet", x.days(0, 0, 4), 20);
        });
        edge("a full ROW: who would come behind is none of it", x -> {
            closed(x, 0);
            x.comer(0, 0, 2, 0, 5);
            x.road(0, 0, CHANCE, 100);
            x.run(0, 20);
            x.comer(0, 0, NONE, 0, 0);
            x.comer(0, 0, 2, 0, 6);
            x.run(0, 3);
            x.comer(0, 0, NONE, 0, 0);
            x.cart(0, 0, NONE, 0, 0, 0, 0);
            x.cart(0, 1, NONE, 0, 0, 0, 0);
            due("20 go", x.run(0, 60), 20);
            x.comer(0, 0, 2, 0, 6);
            x.cart(0, 1, 3, 0, 0, 0, 1);
            told(x, 0, "wait;");
            x.run(0, 1);
            due("then a new one", x.of(0, 0, 2), 6);
        });
        edge("a ROW (none at first): of each ROAD its own", x -> {
            closed(x, 0);
            for (int r = 0; r < 4; r++) {
                due("at first", x.days(0, r, 4), 0);
            }
            x.comer(0, 0, 2, 0, 0);
            x.comer(0, 1, 2, 0, 0);
            x.road(0, 0, CHANCE, 100);
            x.road(0, 1, CHANCE, 100);
            x.run(0, 20);
            x.road(0, 0, CHANCE, 0);
            x.run(0, 5);
            due("road 0", x.days(0, 0, 4), 20);
            due("road 1", x.days(0, 1, 4), 20);
            due("road 2", x.days(0, 2, 4), 0);
            due("another crossing", x.days(1, 0, 4), 0);
        });
    }

    private static void fronts() {
        edge("each ROAD without a CART, with a ROW: its first one is the CART (HABIT 0)", x -> {
            closed(x, 0);
            x.road(0, 0, CHANCE, 100);
            for (int load = 1; load < 4; load++) {
                x.comer(0, 0, 2, load, load);
                x.run(0, 1);
                x.comer(0, 0, NONE, 0, 0);
            }
            due("the CART there stays", x.of(0, 0, 4), 1);
            due("three behind it", x.days(0, 0, 4), 3);
            told(x, 0, "wait;");
            for (int load = 1; load < 4; load++) {
                x.cart(0, 0, NONE, 0, 0, 0, 0);
                x.run(0, 1);
                due("load", x.of(0, 0, 2), load);
                due("sort", x.of(0, 0, 1), load);
                due("habit", x.of(0, 0, 4), 0);
                due("left in the ROW", x.days(0, 0, 4), 3 - load);
            }
            x.cart(0, 0, NONE, 0, 0, 0, 0);
            x.run(0, 1);
            due("an empty ROW brings none", x.of(0, 0, 0), NONE);
        });
        edge("who comes in a TICK may be the CART in it and go in it", x -> {
            x.comer(0, 0, 2, 0, 0);
            x.road(0, 0, CHANCE, 100);
            due("run(0, 1)", x.run(0, 1), 1);
            due("row", x.days(0, 0, 4), 0);
            due("wait", x.days(0, 0, 1), 0);
            due("gone: the ROAD is empty", x.now(0, 3), 0);
        });
    }

    private static void ranks() {
        edge("RANK: TICKS gone by modulo 100", x -> {
            told(x, 0, "wait;");
            x.comer(0, 0, 2, 0, 0);
            x.road(0, 0, CHANCE, 100);
            x.cart(0, 1, 3, 0, 0, 0, 1);
            int ticks = 0;
            int[] at = {0, 1, 50, 98, 99, 100, 101, 199, 200, 250};
            for (int to : at) {
                while (ticks < to) {
                    int step = Math.min(60, to - ticks);
                    x.run(0, step);
                    ticks += step;
                }
                x.cart(0, 0, NONE, 0, 0, 0, 0);
                x.run(0, 1);
                ticks++;
                due("after " + to + " TICKS", x.of(0, 0, 3), to % 100);
                due("TICKS", x.count(0, 0), ticks);
            }
        });
        edge("TICKS gone by: of that CROSSING", x -> {
            x.run(1, 42);
            due("ticks of another one", x.count(0, 0), 0);
            told(x, 0, "wait;");
            x.comer(0, 0, 2, 0, 0);
            x.road(0, 0, CHANCE, 100);
            x.cart(0, 1, 3, 0, 0, 0, 1);
            x.run(0, 1);
            due("rank", x.of(0, 0, 3), 0);
        });
    }

    private static void goings() {
        edge("if two of them FIGHT, CRASHES are one more (once a TICK)", x -> {
            x.cart(0, 0, 2, 0, 0, 0, 0);
            x.run(0, 1);
            due("one goes", x.count(0, 1), 0);
            x.cart(0, 0, 2, 0, 0, 0, 0);
            x.cart(0, 2, 0, 0, 0, 0, 0);
            x.run(0, 1);
            due("two that don't fight", x.count(0, 1), 0);
            for (int r = 0; r < 4; r++) {
                x.cart(0, r, (r + 2) % 4, 0, 0, 0, 0);
            }
            due("four couples that fight", x.run(0, 1), 4);
            due("once a TICK", x.count(0, 1), 1);
            x.cart(0, 0, 2, 0, 0, 0, 0);
            x.cart(0, 1, 3, 0, 0, 0, 0);
            x.run(0, 3);
            due("one couple", x.count(0, 1), 2);
            due("GONE in all", x.count(0, 3), 9);
        });
        edge("all CARTS that MAY GO go at once: by the CARTS as they stood", x -> {
            told(x, 0, "wait when right = 1;");
            for (int r = 0; r < 3; r++) {
                x.cart(0, r, (r + 2) % 4, 0, 0, 0, 0);
            }
            for (int left = 3; left > 0; left--) {
                due("one a TICK", x.run(0, 1), 1);
                due("the last one there", x.now(0, 3), (1 << (left - 1)) - 1);
            }
            due("nobody is left", x.run(0, 1), 0);
        });
        edge("If there are CARTS and none goes, STOOD is one more", x -> {
            x.run(0, 3);
            due("no CARTS", x.count(0, 2), 0);
            closed(x, 0);
            x.run(0, 4);
            due("two that wave", x.count(0, 2), 4);
            x.cart(0, 3, 0, 0, 0, 0, 0);
            due("one goes", x.run(0, 1), 1);
            due("then it isn't", x.count(0, 2), 4);
            due("TICKS", x.count(0, 0), 8);
            x.run(0, 1);
            due("again", x.count(0, 2), 5);
        });
    }

    private static void waits() {
        edge("Of each CART that is left WAIT is one more, its own STAY too (0 when it came), LONGEST at least that", x -> {
            closed(x, 0);
            x.run(0, 3);
            int[] are = {0, 3, 3};
            for (int what = 0; what < 3; what++) {
                due("days(0, 0, " + what + ")", x.days(0, 0, what), are[what]);
            }
            due("stay", x.of(0, 0, 5), 3);
            x.cart(0, 0, 2, 0, 0, 0, 1);
            due("a new CART", x.of(0, 0, 5), 0);
            x.run(0, 2);
            due("WAIT goes on", x.days(0, 0, 1), 5);
            due("LONGEST stays", x.days(0, 0, 2), 3);
            due("STAY is less", x.of(0, 0, 5), 2);
            x.run(0, 1);
            due("LONGEST, alike", x.days(0, 0, 2), 3);
            x.run(0, 1);
            due("LONGEST is more", x.days(0, 0, 2), 4);
            due("road 1", x.days(0, 1, 2), 7);
            due("an empty road", x.days(0, 2, 1) + x.days(0, 2, 2), 0);
        });
        edge("STAY (0 when it came): also of one that comes from the ROW", x -> {
            closed(x, 0);
            x.comer(0, 0, 2, 0, 0);
            x.road(0, 0, CHANCE, 100);
            x.run(0, 9);
            due("ahead", x.of(0, 0, 5), 9);
            x.cart(0, 0, NONE, 0, 0, 0, 0);
            told(x, 0, "wait;");
            x.run(0, 1);
            due("the next one, one TICK on", x.of(0, 0, 5), 1);
        });
        edge("WAIT of the ROAD, LONGEST of the ROAD: of each ROAD its own", x -> {
            told(x, 0, "wait;");
            x.crossing(0, 6);
            for (int r = 0; r < 6; r++) {
                for (int q = 0; q <= r; q++) {
                    x.cart(0, q, (q + 3) % 6, 0, 0, 0, 1);
                }
                x.run(0, 2);
            }
            // 0 and 1 wait for each other from the second round on, each anew in every round
            due("0 went alone in two ticks of the first round", x.days(0, 0, 0), 1);
            for (int r = 0; r < 6; r++) {
                due("WAIT of " + r, x.days(0, r, 1), r == 0 ? 10 : 2 * (6 - r));
                due("LONGEST of " + r, x.days(0, r, 2), 2);
                due("MEAN of " + r, x.days(0, r, 3), r == 0 ? 1000 : NONE);
            }
            for (int r = 5; r > 0; r--) {
                x.cart(0, r, (r + 3) % 6, 0, 0, 0, 2);
                due("it goes", x.run(0, 1) > 0, true);
                due("MEAN of " + r, x.days(0, r, 3), 100 * x.days(0, r, 1) / x.days(0, r, 0));
            }
        });
        edge("STAY and WAIT go on over 100", x -> {
            closed(x, 0);
            for (int i = 0; i < 5; i++) {
                x.run(0, 60);
            }
            due("stay", x.of(0, 0, 5), 300);
            due("longest", x.days(0, 0, 2), 300);
            due("stood", x.count(0, 2), 300);
        });
    }

    private static void means() {
        edge("MEAN of a ROAD: 100 times WAIT by GONE (NONE without), downwards", x -> {
            due("at first", x.days(0, 0, 3), NONE);
            closed(x, 0);
            x.run(0, 2);
            due("WAIT without GONE", x.days(0, 0, 3), NONE);
            x.cart(0, 1, NONE, 0, 0, 0, 0);
            x.run(0, 1);
            due("200 by 1", x.days(0, 0, 3), 200);
            x.cart(0, 0, 2, 0, 0, 0, 0);
            x.run(0, 1);
            due("200 by 2", x.days(0, 0, 3), 100);
            x.cart(0, 0, 2, 0, 0, 0, 0);
            x.run(0, 1);
            due("200 by 3", x.days(0, 0, 3), 66);
            due("another road, WAIT and no GONE", x.days(0, 1, 3), NONE);
            x.cart(0, 2, 0, 0, 0, 0, 0);
            x.run(0, 1);
            due("GONE without WAIT", x.days(0, 2, 3), 0);
        });
        edge("days: NONE - 1 if one can't be, or another what", x -> {
            for (int what = 0; what < 5; what++) {
                due("what " + what, x.days(0, 0, what), what == 3 ? NONE : 0);
            }
            due("what 5", x.days(0, 0, 5), NONE - 1);
            due("what -1", x.days(0, 0, -1), NONE - 1);
            due("road 4", x.days(0, 4, 0), NONE - 1);
            due("road -1", x.days(0, -1, 0), NONE - 1);
            due("crossing 6", x.days(6, 0, 0), NONE - 1);
            due("crossing -1", x.days(-1, 0, 0), NONE - 1);
        });
        edge("count: what 0 .. 3; NONE if one can't be, or another what", x -> {
            x.crossing(5, 6);
            x.cart(5, 5, 0, 0, 0, 0, 0);
            x.cart(5, 0, 1, 0, 0, 0, 0);
            x.run(5, 1);
            due("GONE in all, of the first ROAD and the last", x.count(5, 3), 2);
            due("what 4", x.count(5, 4), NONE);
            due("what -1", x.count(5, -1), NONE);
            due("crossing 6", x.count(6, 0), NONE);
            due("crossing -1", x.count(-1, 0), NONE);
        });
    }

    private static void runs() {
        edge("run: TICKS (1 .. 60): NONE if one can't be", x -> {
            for (int n : new int[] {LEAST, -1, 0, 61, MOST}) {
                due("run(0, " + n + ")", x.run(0, n), NONE);
            }
            due("run(6, 1)", x.run(6, 1), NONE);
            due("run(-1, 1)", x.run(-1, 1), NONE);
            due("no TICK", x.count(0, 0), 0);
            due("run(0, 1)", x.run(0, 1), 0);
            due("TICKS", x.count(0, 0), 1);
            due("run(0, 60)", x.run(0, 60), 0);
            due("TICKS", x.count(0, 0), 61);
            due("of another crossing", x.count(1, 0), 0);
        });
        edge("run: how many CARTS went", x -> {
            x.crossing(0, 6);
            for (int r = 0; r < 6; r++) {
                x.comer(0, r, (r + 1) % 6, 0, 0);
                x.road(0, r, CHANCE, 100);
            }
            due("six a TICK", x.run(0, 60), 360);
            due("GONE in all", x.count(0, 3), 360);
        });
    }

    private static void links() {
        edge("link: ROOM 0 .. 9 between", x -> {
            x.link(1, 0, 0, 1, 0);
            for (int room = 0; room < 10; room++) {
                due("room " + room, x.link(0, 0, 1, 1, room), true);
                due("it fills with", x.ring(0), 2 + room);
            }
            due("room 10", x.link(0, 0, 1, 1, 10), false);
            due("room -1", x.link(0, 0, 1, 1, -1), false);
            due("room MAX", x.link(0, 0, 1, 1, MOST), false);
            due("that of 9 stays", x.ring(0), 11);
        });
        edge("link: false if one can't be (to itself)", x -> {
            for (int c = 0; c < 6; c++) {
                due("from " + c + " to itself", x.link(c, 0, c, 1, 0), false);
                due("from " + c, x.link(c, 0, c == 5 ? 0 : c + 1, 1, 0), true);
                due("from " + c + " to itself", x.link(c, 0, c, 1, 0), false);
            }
            due("those that can be", x.look(1), 6);
            due("stay", x.ring(1), 6);
        });
        edge("nowhere (at first); to NONE: nowhere, the rest isn't looked at", x -> {
            due("at first", x.look(1), 0);
            x.link(0, 0, 1, 1, 0);
            x.link(0, 1, 1, 1, 0);
            due("two", x.look(1), 2);
            due("nowhere", x.link(0, 0, NONE, LEAST, MOST), true);
            due("one", x.look(1), 1);
            due("nowhere again", x.link(0, 0, NONE, 9, 10), true);
            due("no road", x.link(0, 4, NONE, 0, 0), false);
            due("no road", x.link(0, -1, NONE, 0, 0), false);
            due("no crossing", x.link(6, 0, NONE, 0, 0), false);
            due("one", x.look(1), 1);
        });
        edge("a ROAD leads to a ROAD of another one: one LINK a ROAD, in place of that before", x -> {
            x.link(0, 0, 1, 1, 9);
            x.link(1, 0, 0, 1, 9);
            x.link(2, 0, 0, 1, 0);
            due("by 1", x.ring(0), 20);
            due("to 2", x.link(0, 0, 2, 1, 0), true);
            due("by 2", x.ring(0), 2);
            due("three lead somewhere", x.look(1), 3);
        });
        edge("where it comes in there: a ROAD that the other CROSSING has", x -> {
            x.crossing(1, 3);
            x.crossing(2, 6);
            due("2 of 3", x.link(0, 0, 1, 2, 0), true);
            due("3 of 3", x.link(0, 0, 1, 3, 0), false);
            due("5 of 6", x.link(0, 0, 2, 5, 0), true);
            due("6 of 6", x.link(0, 0, 2, 6, 0), false);
            due("-1", x.link(0, 0, 2, -1, 0), false);
            due("from 5 of 6", x.link(2, 5, 0, 3, 0), true);
            due("from 3 of 3", x.link(1, 3, 0, 3, 0), false);
        });
    }

    private static void ringRoads() {
        edge("by a ROAD unlike that by which it comes in there", x -> {
            x.link(0, 0, 1, 0, 0);
            x.link(1, 0, 0, 1, 0);
            due("out of 1 where it comes in", x.ring(0), NONE);
            x.link(1, 1, 0, 1, 0);
            due("out of 1 elsewhere", x.ring(0), 2);
            due("by that one", x.ring(11), 7);
        });
        edge("the ROAD by which the first one's CROSSING is come into (unlike the first one's ROAD)", x -> {
            x.link(0, 0, 1, 0, 0);
            x.link(1, 1, 0, 0, 0);
            due("into 0 where it goes out", x.ring(0), NONE);
            x.link(1, 2, 0, 3, 0);
            due("into 0 elsewhere", x.ring(0), 2);
            due("by that one", x.ring(11), 8);
        });
        edge("NONE if there is none such, or another what: no ring at all", x -> {
            for (int what : new int[] {LEAST, -1, 0, 1, 2, 9, 10, 11, MOST}) {
                due("ring(" + what + ")", x.ring(what), NONE);
            }
            x.link(0, 0, 1, 0, 0);
            due("one LINK", x.ring(0), NONE);
        });
        edge("10 + i the i-th LINK: NONE if there is none such, or another what", x -> {
            x.link(4, 3, 5, 0, 0);
            x.link(5, 3, 4, 0, 0);
            due("how many", x.ring(1), 2);
            due("the 0th", x.ring(10), 27);
            due("the 1st", x.ring(11), 33);
            for (int what : new int[] {LEAST, -1, 2, 9, 12, 13, MOST}) {
                due("ring(" + what + ")", x.ring(what), NONE);
            }
        });
    }

    private static void ringLengths() {
        edge("no LINK twice: the longest rings, of 6 CROSSINGS", x -> {
            for (int c = 0; c < 6; c++) {
                x.link(c, 0, (c + 1) % 6, 3, 9);
            }
            due("fills", x.ring(0), 60);
            due("how many", x.ring(1), 6);
            for (int c = 0; c < 6; c++) {
                due("the LINK " + c, x.ring(10 + c), 6 * c);
            }
            due("no 6th", x.ring(16), NONE);
        });
        edge("no LINK twice: a CROSSING may be come to more than once", x -> {
            // into 0 by road 0 only on by 1, into 0 by road 1 only on by 0: each neighbour's round alone is none
            x.link(0, 0, 1, 0, 1);
            x.link(1, 1, 0, 0, 2);
            x.link(0, 1, 2, 0, 3);
            x.link(2, 1, 0, 1, 4);
            due("fills", x.ring(0), 14);
            due("how many", x.ring(1), 4);
            int[] row = {0, 7, 1, 13};
            for (int i = 0; i < 4; i++) {
                due("the LINK " + i, x.ring(10 + i), row[i]);
            }
            due("no 4th", x.ring(14), NONE);
        });
        edge("a CROSSING told anew has its LINKS and those to it nowhere: the ring is none", x -> {
            x.link(0, 0, 1, 0, 0);
            x.link(1, 1, 0, 1, 0);
            due("ring", x.ring(0), 2);
            x.crossing(1, 4);
            due("none", x.ring(0), NONE);
            due("LINKS", x.look(1), 0);
        });
    }

    private static void leastRings() {
        edge("LEAST RING: that which FILLS with the fewest", x -> {
            x.link(0, 0, 1, 0, 3);
            x.link(1, 1, 0, 1, 0);
            due("3 and 0 and two", x.ring(0), 5);
            x.link(2, 0, 3, 0, 0);
            x.link(3, 1, 4, 0, 0);
            x.link(4, 1, 5, 0, 0);
            x.link(5, 1, 2, 1, 0);
            due("four CARTS and no ROOM", x.ring(0), 4);
            due("how many", x.ring(1), 4);
            due("begins with", x.ring(10), 12);
            x.link(5, 1, 2, 1, 1);
            due("5 and 5: the first", x.ring(10), 0);
            x.link(5, 1, 2, 1, 2);
            due("5 and 6", x.ring(1), 2);
        });
        edge("of several the first (by 6 CROSSING + ROAD of its LINKS, beginning with its least LINK)", x -> {
            x.link(5, 1, 0, 0, 0);
            x.link(0, 1, 5, 0, 0);
            due("begins with its least LINK", x.ring(10), 1);
            due("then", x.ring(11), 31);
            x.link(5, 3, 0, 0, 0);
            x.link(0, 3, 5, 0, 0);
            due("of those that begin with 1 the first", x.ring(11), 31);
            x.link(5, 1, NONE, 0, 0);
            due("the other one", x.ring(11), 33);
            x.link(0, 1, NONE, 0, 0);
            due("begins with 3", x.ring(10), 3);
        });
    }

    /** All that the image holds is told in some way, then changed, then gone back to. */
    private static void images() {
        edge("THE IMAGE: all that is and was told but the TAPE and fault(), as it was when it was taken", x -> {
            x.crossing(0, 6);
            told(x, 0, "wait when size = 3 and slope = 1 and sign = 2;");
            told(x, 3, "go; go;");
            x.land(1, 0);
            for (int what = 0; what < 5; what++) {
                x.road(0, 0, what, new int[] {3, 1, 2, 1, 100}[what]);
            }
            x.comer(0, 0, 2, 1, 5);
            x.cart(0, 0, 3, 2, 6, 70, 0);
            x.cart(0, 1, 3, 3, 7, 71, 1);
            x.link(0, 5, 1, 3, 4);
            x.link(1, 0, 0, 0, 5);
            x.run(0, 4);
            x.state(123);
            due("image(true)", x.image(true), true);
            x.state(0);
            x.crossing(0, 3);
            x.crossing(1, 3);
            told(x, 0, "go;");
            told(x, 3, "");
            x.land(1, 2);
            x.cart(2, 0, 2, 0, 0, 0, 0);
            tape(x, "go; ?");
            x.rule(1);
            tape(x, "wait; wait;");
            due("image(false)", x.image(false), true);
            due("the TAPE", taped(x), 11);
            due("fault(1)", x.fault(1), 4);
            due("STATE", x.look(3), 123);
            due("lines", x.look(0), 3);
            due("LINKS", x.look(1), 2);
            due("roads", x.road(0, 5, LAND, 0), true);
            due("ring", x.ring(0), 11);
            due("comers", x.ever(0, 0), 6);
            due("row", x.days(0, 0, 4), 4);
            due("wait", x.days(0, 0, 1), 4);
            due("longest", x.days(0, 0, 2), 4);
            due("ticks", x.count(0, 0), 4);
            due("stood", x.count(0, 2), 4);
            due("another crossing", x.now(2, 3), 0);
            int[] are = {3, 2, 6, 70, 0, 4};
            for (int what = 0; what < 6; what++) {
                due("of(0, 0, " + what + ")", x.of(0, 0, what), are[what]);
            }
            due("land 1 has rule 0, by size, slope and sign", x.waits(0, 0, 1), 1);
            x.cart(0, 1, NONE, 0, 0, 0, 0);
            due("chance: four of the ROW and one more", x.run(0, 3), 3);
            due("row", x.days(0, 0, 4), 5);
        });
        edge("THE IMAGE: COMERS and ROWS as they were", x -> {
            closed(x, 0);
            x.comer(0, 0, 2, 1, 3);
            x.comer(0, 0, 2, 1, 4);
            x.road(0, 0, CHANCE, 100);
            x.run(0, 6);
            x.image(true);
            int state = 0;
            int loads = 0;
            for (int i = 0; i < 6; i++) {
                state = after(after(state));
                loads = 10 * loads + 3 + drawn(state, 2);
            }
            for (int i = 0; i < 2; i++) {
                told(x, 0, "");
                x.comer(0, 0, NONE, 0, 0);
                x.comer(0, 0, 1, 3, 9);
                x.cart(0, 0, NONE, 0, 0, 0, 0);
                x.cart(0, 1, NONE, 0, 0, 0, 0);
                x.run(0, 20);
                closed(x, 0);
                x.run(0, 20);
                x.image(false);
                due("in the ROW", x.days(0, 0, 4), 6);
                due("how many COMERS", x.ever(0, 0), 48);
                int seen = 0;
                told(x, 0, "wait;");
                x.cart(0, 1, 3, 0, 0, 0, 2);
                x.road(0, 0, CHANCE, 0);
                for (int k = 0; k < 6; k++) {
                    x.cart(0, 0, NONE, 0, 0, 0, 0);
                    x.cart(0, 1, 3, 0, 0, 0, 2);
                    x.run(0, 1);
                    seen = 10 * seen + x.of(0, 0, 2);
                }
                due("loads of the ROW", seen, loads);
                x.comer(0, 1, 3, 0, 0);
                due("lay", x.lay(0, 0), true);
                due("load of the first COMER", x.of(0, 0, 2), 3);
                due("its sort", x.of(0, 0, 1), 1);
            }
        });
        edge("image: false if there is none", x -> {
            x.state(7);
            due("none", x.image(false), false);
            due("nothing is gone back to", x.look(3), 7);
            due("none is taken by that", x.image(false), false);
            due("look(2)", x.look(2), 0);
        });
    }

    private static void imagesAgain() {
        edge("gone back to it may be more than once", x -> {
            x.state(1);
            x.cart(0, 0, 2, 0, 0, 9, 0);
            x.image(true);
            for (int i = 0; i < 5; i++) {
                x.state(2);
                x.crossing(0, 5);
                x.cart(0, 4, 1, 0, 0, 5, 0);
                due("image(false)", x.image(false), true);
                due("state", x.look(3), 1);
                due("carts", x.now(0, 3), 1);
                due("rank", x.of(0, 0, 3), 9);
                due("look(2)", x.look(2), 1);
            }
        });
        edge("The IMAGE is taken: in place of the one before", x -> {
            x.state(1);
            x.image(true);
            x.state(2);
            due("taken again", x.image(true), true);
            x.state(3);
            x.image(false);
            due("state", x.look(3), 2);
        });
        edge("as it was when it was taken: what comes later isn't of it, CRASHES and GONE too", x -> {
            x.image(true);
            x.cart(0, 0, 2, 0, 0, 0, 0);
            x.cart(0, 1, 3, 0, 0, 0, 0);
            x.run(0, 1);
            due("crashes", x.count(0, 1), 1);
            due("gone", x.count(0, 3), 2);
            x.image(false);
            due("crashes", x.count(0, 1), 0);
            due("gone", x.count(0, 3), 0);
            due("ticks", x.count(0, 0), 0);
        });
    }

    private static void looks() {
        edge("look: what 0 lines of RULES 0 .. 3 together, 1 LINKS that lead somewhere: at the most", x -> {
            StringBuilder text = new StringBuilder();
            for (int i = 0; i < 16; i++) {
                text.append("go;");
            }
            for (int k = 0; k < 4; k++) {
                due("rule", told(x, k, text.toString()), 16);
                due("lines", x.look(0), 16 * k + 16);
            }
            for (int c = 0; c < 6; c++) {
                x.crossing(c, 6);
            }
            for (int c = 0; c < 6; c++) {
                for (int r = 0; r < 6; r++) {
                    due("link", x.link(c, r, (c + 1) % 6, r, 9), true);
                }
            }
            due("LINKS", x.look(1), 36);
            due("the least ring", x.ring(0), 60);
            due("begins", x.ring(10), 0);
            due("goes on by another road", x.ring(11), 7);
            due("and by the first one", x.ring(12), 12);
        });
        edge("look: NONE for another what", x -> {
            due("look(4)", x.look(4), NONE);
            due("look(-1)", x.look(-1), NONE);
            due("look(MIN)", x.look(LEAST), NONE);
            due("look(MAX)", x.look(MOST), NONE);
        });
    }
}
