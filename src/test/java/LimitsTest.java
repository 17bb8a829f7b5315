import java.util.ArrayList;
import java.util.Arrays;
import java.util.List;
import java.util.function.ToIntBiFunction;

/**
 * Each argument of each call: the last numbers that are allowed, the first ones that are not and far ones; what a
 * refused call answers, and that nothing is done by it.
 */
public final class LimitsTest extends Asking {
    private static final int NO = 0;
    private static final int YES = 1;

    /** A number that has no limits. */
    private static final int[][] ANY = {{LEAST, NONE, 0, MOST}, {}};

    private static int[][] from(int least, int most) {
        return new int[][] {{least, most}, {LEAST, least - 1, most + 1, MOST}};
    }

    /** From 0 to a number, and NONE, which is tried elsewhere. */
    private static int[][] orNone(int most) {
        return new int[][] {{0, most}, {LEAST, NONE - 1, most + 1, MOST}};
    }

    private static int[][] just(int... some) {
        return new int[][] {some, {}};
    }

    private static int as(boolean answer) {
        return answer ? YES : NO;
    }

    /** Two lands, all carts in a circle, comers that can be stuck and both, a ring, an image, a tape, a fault. */
    private static FourPalms prepared() {
        FourPalms x = new FourPalms();
        told(x, 0, "wait when right = 1;");
        told(x, 1, "wait when first = 1; go;");
        told(x, 3, "wait when size > osize;");
        for (int c = 0; c < 6; c++) {
            x.road(c, 2, 0, 2);
            x.comer(c, 0, 2, 0, 1);
            x.comer(c, 1, 0, 1, 2);
            x.comer(c, 1, 3, 3, 3);
            x.comer(c, 2, 0, 2, 4);
            x.comer(c, 3, 1, 3, 5);
            for (int r = 0; r < 4; r++) {
                x.cart(c, r, (r + 2) % 4, r, 2 * r, 11 * r, 0);
            }
            x.road(c, c % 4, 4, 70);
        }
        x.link(0, 0, 3, 1, 4);
        x.link(3, 2, 0, 2, 5);
        x.link(5, 3, 2, 0, 6);
        x.state(1234567);
        x.image(true);
        x.run(0, 5);
        x.cart(1, 2, 1, 0, 0, 5, 1);
        tape(x, "wait ?");
        x.rule(2);
        tape(x, "go; wait; go;");
        return x;
    }

    /** All that shows of an object; days go on and the tape goes, so that chances, rows and texts show, too. */
    private static List<Integer> shown(FourPalms x) {
        List<Integer> all = new ArrayList<>();
        for (int c = 0; c < 6; c++) {
            for (int r = 0; r < 6; r++) {
                for (int what = 0; what < 6 && x.of(c, r, 0) >= 0; what++) {
                    all.add(x.of(c, r, what));
                }
                all.add(x.days(c, r, 1));
                all.add(x.days(c, r, 4));
            }
            all.add(x.now(c, 0));
            all.add(x.count(c, 0));
            all.add(x.count(c, 2));
            all.add(x.ever(c, 0));
            all.add(x.ever(c, 1));
        }
        for (int what = 0; what < 4; what++) {
            all.add(x.look(what));
            all.add(x.ring(what < 2 ? what : what + 8));
        }
        all.add(x.fault(0));
        all.add(x.fault(1));
        all.add(taped(x));
        for (int c = 0; c < 6; c++) {
            all.add(x.run(c, 3));
            all.add(x.look(3));
        }
        all.add(x.rule(2));
        all.add(as(x.image(false)));
        all.add(x.look(0));
        all.add(x.look(3));
        all.add(x.now(1, 0));
        return all;
    }

    /** What a call answers whose numbers are these, what it answers when one can't be, and the numbers' limits. */
    private static void limits(String name, ToIntBiFunction<FourPalms, int[]> call, int refused, int[] usual,
                               int[][]... limits) {
        List<Integer> before = shown(prepared());
        for (int i = 0; i < usual.length; i++) {
            for (int v : limits[i][0]) {
                FourPalms x = prepared();
                due(name + of(usual, i, v) + " refused", as(call.applyAsInt(x, with(usual, i, v)) == refused), NO);
            }
            for (int v : limits[i][1]) {
                FourPalms x = prepared();
                due(name + of(usual, i, v), call.applyAsInt(x, with(usual, i, v)), refused);
                due(name + of(usual, i, v) + " did something", as(!shown(x).equals(before)), NO);
            }
        }
    }

    private static int[] with(int[] usual, int i, int v) {
        int[] changed = usual.clone();
        changed[i] = v;
        return changed;
    }

    private static String of(int[] usual, int i, int v) {
        return Arrays.toString(with(usual, i, v));
    }

    private static void told() {
        limits("crossing", (x, a) -> as(x.crossing(a[0], a[1])), NO, new int[] {2, 4}, from(0, 5), from(3, 6));
        int[] most = {3, 1, 2, 1, 100};
        for (int what = 0; what < 5; what++) {
            limits("road", (x, a) -> as(x.road(a[0], a[1], a[2], a[3])), NO, new int[] {2, 1, what, 1},
                from(0, 5), from(0, 3), from(0, 4), from(0, most[what]));
        }
        limits("land", (x, a) -> as(x.land(a[0], a[1])), NO, new int[] {1, 2}, from(0, 1), from(0, 3));
        limits("cart", (x, a) -> as(x.cart(a[0], a[1], a[2], a[3], a[4], a[5], a[6])), NO,
            new int[] {2, 1, 2, 1, 5, 50, 1},
            from(0, 5), from(0, 3), orNone(3), from(0, 3), from(0, 9), from(0, 99), from(0, 2));
        limits("cart of none", (x, a) -> as(x.cart(a[0], a[1], NONE, a[2], a[3], a[4], a[5])), NO,
            new int[] {2, 1, 0, 0, 0, 0}, from(0, 5), from(0, 3), ANY, ANY, ANY, ANY);
        limits("comer", (x, a) -> x.comer(a[0], a[1], a[2], a[3], a[4]), NONE, new int[] {2, 2, 1, 1, 5},
            from(0, 5), new int[][] {{0, 3}, {LEAST, -1, 4, MOST}}, orNone(3), from(0, 3), from(0, 9));
        limits("comer of none", (x, a) -> x.comer(a[0], a[1], NONE, a[2], a[3]), NONE, new int[] {2, 1, 0, 0},
            from(0, 5), from(0, 3), ANY, ANY);
        limits("comer of a road with two", (x, a) -> x.comer(2, a[0], 2, 0, 0), NONE, new int[] {0},
            new int[][] {{0, 3}, {1}});
        limits("link", (x, a) -> as(x.link(a[0], a[1], a[2], a[3], a[4])), NO, new int[] {1, 1, 2, 1, 5},
            from(0, 5), from(0, 3), orNone(5), from(0, 3), from(0, 9));
        limits("link to itself", (x, a) -> as(x.link(a[0], 0, 3, 0, 0)), NO, new int[] {0},
            new int[][] {{0, 1, 2, 4, 5}, {3}});
        limits("link to nowhere", (x, a) -> as(x.link(a[0], a[1], NONE, a[2], a[3])), NO, new int[] {1, 1, 0, 0},
            from(0, 5), from(0, 3), ANY, ANY);
        limits("end", (x, a) -> as(x.end(a[0])), NO, new int[] {0}, from(0, 13));
        limits("lay", (x, a) -> as(x.lay(a[0], a[1])), NO, new int[] {2, 1}, from(0, 5), from(0, 1));
        limits("run", (x, a) -> x.run(a[0], a[1]), NONE, new int[] {2, 7}, from(0, 5), from(1, 60));
        limits("judge", (x, a) -> x.judge(a[0], a[1]), NONE - 1, new int[] {2, 5}, from(0, 5), from(1, 15));
        limits("state", (x, a) -> x.state(a[0]), NONE, new int[] {0}, ANY);
    }

    private static void asked() {
        limits("fight", (x, a) -> x.fight(a[0], a[1], a[2], a[3], a[4]), NONE, new int[] {2, 1, 2, 2, 1},
            from(0, 5), from(0, 3), from(0, 3), orNone(3), from(0, 3));
        limits("fight of one road", (x, a) -> x.fight(2, 1, 2, a[0], 0), NONE, new int[] {2}, new int[][] {{2, 3}, {1, 0}});
        limits("fight from a road to itself", (x, a) -> x.fight(2, 1, a[0], 2, 0), NONE, new int[] {0},
            new int[][] {{0, 2, 3}, {1}});
        limits("the turn", (x, a) -> x.fight(a[0], a[1], a[2], NONE, a[3]), NONE, new int[] {2, 1, 2, 0},
            from(0, 5), from(0, 3), new int[][] {{0, 3}, {LEAST, -1, 1, 4, MOST}}, ANY);
        limits("of", (x, a) -> x.of(a[0], a[1], a[2]), NONE - 1, new int[] {2, 1, 3}, from(0, 5), from(0, 3), from(0, 5));
        limits("fault", (x, a) -> x.fault(a[0]), NONE, new int[] {0}, from(0, 1));
        limits("waits", (x, a) -> x.waits(a[0], a[1], a[2]), NONE, new int[] {2, 1, 2},
            from(0, 5), new int[][] {{0, 3}, {LEAST, -1, 2, 4, MOST}}, new int[][] {{0, 3}, {LEAST, -1, 1, 4, MOST}});
        limits("now", (x, a) -> x.now(a[0], a[1]), NONE, new int[] {2, 0}, from(0, 5), from(0, 3));
        limits("circle", (x, a) -> x.circle(a[0], a[1]), NONE, new int[] {2, 0}, from(0, 5),
            new int[][] {{0, 10, 13}, {LEAST, -1, 1, 9, 14, MOST}});
        limits("meant", (x, a) -> x.meant(a[0], a[1]), NONE, new int[] {2, 0}, from(0, 5), from(0, 3));
        limits("cleared", (x, a) -> x.cleared(a[0], a[1]), NONE, new int[] {2, 0}, from(0, 5), from(0, 2));
        limits("days", (x, a) -> x.days(a[0], a[1], a[2]), NONE - 1, new int[] {2, 1, 0},
            from(0, 5), from(0, 3), from(0, 4));
        limits("count", (x, a) -> x.count(a[0], a[1]), NONE, new int[] {2, 0}, from(0, 5), from(0, 3));
        limits("ring", (x, a) -> x.ring(a[0]), NONE, new int[] {0}, new int[][] {{0, 1, 10, 11}, {LEAST, -1, 2, 9, 12, MOST}});
        limits("look", (x, a) -> x.look(a[0]), NONE, new int[] {0}, from(0, 3));
    }

    private static void comings() {
        limits("ever", (x, a) -> x.ever(a[0], a[1]), NONE, new int[] {2, 0}, from(0, 5), from(0, 4));
        limits("odds", (x, a) -> x.odds(a[0], a[1]), NONE - 1, new int[] {2, 1}, from(0, 5), from(0, 3));
        limits("mutual", (x, a) -> x.mutual(a[0]), NONE, new int[] {2}, from(0, 5));
        limits("used", (x, a) -> x.used(a[0], a[1]), NONE, new int[] {1, 2}, from(0, 3), from(0, 5));
        limits("holds", (x, a) -> x.holds(a[0]), NONE, new int[] {1}, from(0, 3));
        limits("starve", (x, a) -> x.starve(a[0]), NONE, new int[] {2}, from(0, 5));
        limits("shortest", (x, a) -> x.shortest(a[0], a[1]), NONE, new int[] {7, 0}, from(1, 63), from(0, 2));
        limits("sound", (x, a) -> x.sound(a[0], a[1]), NONE, new int[] {7, 20}, from(1, 63),
            new int[][] {{1, 16, 18, 33, 35, 271, 273, 288}, {LEAST, -1, 0, 17, 34, 51, 255, 272, 289, MOST}});
        limits("signs", (x, a) -> {
            x.end(0);
            told(x, 0, "wait when first = 1;");
            return x.signs(a[0]);
        }, NONE, new int[] {2}, new int[][] {{0, 5}, {}});
        limits("signs", (x, a) -> x.signs(a[0]), NONE, new int[] {6}, new int[][] {{}, {LEAST, -1, 6, MOST}});
        limits("border", (x, a) -> x.border(a[0], a[1]), NONE, new int[] {2, 0}, from(0, 5), from(0, 1));
    }

    /** A road is one of those that the crossing has, be they 3 or 6. */
    private static void roadsOfUnlikeCrossings() {
        for (int n = 3; n < 7; n++) {
            FourPalms x = new FourPalms();
            x.crossing(1, n);
            String of = "of " + n + " roads: ";
            due(of + "road", x.road(1, n - 1, 0, 1), true);
            due(of + "road", x.road(1, n, 0, 1), false);
            due(of + "cart", x.cart(1, n - 1, 0, 0, 0, 0, 0), true);
            due(of + "cart", x.cart(1, n, 0, 0, 0, 0, 0), false);
            due(of + "cart to", x.cart(1, 0, n - 1, 0, 0, 0, 0), true);
            due(of + "cart to", x.cart(1, 0, n, 0, 0, 0, 0), false);
            due(of + "of", x.of(1, n - 1, 0), 0);
            due(of + "of", x.of(1, n, 0), NONE - 1);
            due(of + "waits", x.waits(1, n - 1, 0), 0);
            due(of + "waits", x.waits(1, 0, n), NONE);
            due(of + "waits", x.waits(1, n, 0), NONE);
            due(of + "comer", x.comer(1, n - 1, 0, 0, 0), 1);
            due(of + "comer", x.comer(1, n, 0, 0, 0), NONE);
            due(of + "comer to", x.comer(1, 0, n - 1, 0, 0), 1);
            due(of + "comer to", x.comer(1, 0, n, 0, 0), NONE);
            due(of + "odds", x.odds(1, n - 1), 0);
            due(of + "odds", x.odds(1, n), NONE - 1);
            due(of + "days", x.days(1, n - 1, 0), 0);
            due(of + "days", x.days(1, n, 0), NONE - 1);
            due(of + "turn", x.fight(1, n - 1, 0, NONE, 0), 1);
            due(of + "turn", x.fight(1, n, 0, NONE, 0), NONE);
            due(of + "turn", x.fight(1, 0, n, NONE, 0), NONE);
            due(of + "fight", x.fight(1, 1, 0, 0, n - 1), x.fight(1, 0, n - 1, 1, 0));
            due(of + "fight", x.fight(1, 1, 0, n, 0), NONE);
            due(of + "fight", x.fight(1, 1, 0, 0, n), NONE);
            due(of + "link", x.link(1, n - 1, 0, 3, 0), true);
            due(of + "link", x.link(1, n, 0, 3, 0), false);
            due(of + "link in", x.link(0, 0, 1, n - 1, 0), true);
            due(of + "link in", x.link(0, 0, 1, n, 0), false);
            due(of + "link in where 4 are", x.link(1, 0, 0, 4, 0), false);
            due(of + "links", x.look(1), 2);
            due(of + "judge", x.judge(1, 1 << n), NONE - 1);
            due(of + "judge", x.judge(1, (1 << n) + 1), NONE - 1);
            due(of + "judge", x.judge(1, (1 << n) - 1), 1);
        }
    }

    /** No such rule: what stood on the tape is gone, and fault() tells 0 of it. */
    private static void noSuchRule() {
        for (int k : new int[] {LEAST, -1, 4, MOST}) {
            FourPalms x = new FourPalms();
            told(x, 3, "go;");
            told(x, 0, "wait ?");
            tape(x, "wait;");
            due("rule(" + k + ")", x.rule(k), NONE);
            due("fault(0)", x.fault(0), 0);
            due("fault(1)", x.fault(1), NONE);
            due("the tape", taped(x), 0);
            due("lines", x.look(0), 1);
        }
        for (int k = 0; k < 4; k++) {
            FourPalms x = new FourPalms();
            due("rule(" + k + ")", told(x, k, "go; wait;"), 2);
            due("the tape", taped(x), 0);
            due("lines", x.look(0), 2);
        }
    }

    public static void main(String[] args) {
        told();
        asked();
        comings();
        roadsOfUnlikeCrossings();
        noSuchRule();
        close();
    }
}
