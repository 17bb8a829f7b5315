/** For each promise: ordinary calls, the edges that the document names, and wrong calls, answers worked out by hand. */
public final class PromisesTest extends Asking {
    private static final String RIGHT = "wait when right = 1;";
    private static final String FIRST = "wait when first = 1;";

    /** Whether a condition is so for a cart that goes straight from road 0 and another one that does so from road 1. */
    private static void so(String condition, boolean want) {
        FourPalms x = new FourPalms();
        due("a rule " + condition, told(x, 0, "wait when " + condition + ";"), 1);
        x.road(0, 0, 0, 2);
        x.road(0, 1, 0, 3);
        x.road(0, 0, 1, 1);
        x.road(0, 1, 2, 2);
        x.cart(0, 0, 2, 1, 4, 7, 0);
        x.cart(0, 1, 0, 3, 9, 5, 0);
        due(condition, x.waits(0, 0, 1), want ? 1 : 0);
    }

    private static void newAndState() {
        FourPalms x = new FourPalms();
        for (int c = 0; c < 6; c++) {
            due("1: carts", x.now(c, 3), 0);
            due("1: comers", x.ever(c, 0), 0);
            due("1: road 3", x.road(c, 3, 0, 0), true);
            due("1: road 4", x.road(c, 4, 0, 0), false);
            due("1: ticks", x.count(c, 0), 0);
        }
        due("1: rules", x.look(0), 0);
        due("1: links", x.look(1), 0);
        due("1: image", x.look(2), 0);
        due("1: state", x.look(3), 0);
        due("1: no carts, not stuck", x.now(0, 1), 0);
        due("1: fault", x.fault(0), 0);
        due("1: tape", x.feed(0, 0, 0, 0, 0), 20);
        due("2: state", x.state(77), 0);
        due("2: state", x.state(Integer.MIN_VALUE), 77);
        due("2: state", x.state(-1), Integer.MIN_VALUE);
        due("2: state", x.look(3), -1);
    }

    private static void crossings() {
        FourPalms x = new FourPalms();
        due("3", x.crossing(0, 2), false);
        due("3", x.crossing(0, 7), false);
        due("3", x.crossing(-1, 4), false);
        due("3", x.crossing(6, 4), false);
        due("3", x.crossing(0, 6), true);
        due("3: six roads", x.road(0, 5, 0, 3), true);
        x.road(0, 5, 4, 100);
        x.comer(0, 5, 0, 0, 0);
        x.cart(0, 1, 0, 0, 0, 0, 1);
        x.cart(0, 0, 3, 0, 0, 0, 1);
        x.run(0, 3);
        x.link(0, 0, 1, 1, 1);
        x.link(1, 0, 0, 5, 1);
        x.link(2, 0, 1, 2, 1);
        due("3: a false call changes nothing", x.crossing(0, 8), false);
        due("3", x.look(1), 3);
        due("3", x.now(0, 3) != 0, true);
        due("3", x.crossing(0, 6), true);
        due("3: its links and those to it", x.look(1), 1);
        due("3: carts", x.now(0, 3), 0);
        due("3: comers", x.ever(0, 0), 0);
        due("3: row", x.days(0, 5, 4), 0);
        due("3: ticks", x.count(0, 0), 0);
        due("3: gone", x.count(0, 3), 0);
        due("3: gone", x.days(0, 5, 0), 0);
        x.comer(0, 5, 0, 0, 0);
        x.run(0, 5);
        due("3: chance", x.days(0, 5, 0), 0);
        x.crossing(0, 3);
        due("3: three roads", x.road(0, 3, 0, 0), false);
    }

    private static void roadsAndLands() {
        FourPalms x = new FourPalms();
        int[] most = {3, 1, 2, 1, 100};
        for (int what = 0; what < 5; what++) {
            due("4", x.road(0, 0, what, 0), true);
            due("4", x.road(0, 3, what, most[what]), true);
            due("4", x.road(0, 3, what, most[what] + 1), false);
            due("4", x.road(0, 3, what, -1), false);
            due("4", x.road(0, 4, what, 0), false);
            due("4", x.road(0, -1, what, 0), false);
            due("4", x.road(6, 0, what, 0), false);
        }
        due("4", x.road(0, 0, 5, 0), false);
        due("4", x.road(0, 0, -1, 0), false);
        due("5", x.land(2, 0), false);
        due("5", x.land(-1, 0), false);
        due("5", x.land(0, 4), false);
        due("5", x.land(0, -1), false);
        told(x, 1, "wait;");
        told(x, 3, "wait;");
        x.cart(1, 0, 2, 0, 0, 0, 0);
        x.cart(1, 1, 3, 0, 0, 0, 0);
        due("5: land 0 has rule 0", x.waits(1, 0, 1), 0);
        x.road(1, 0, 3, 1);
        due("5: land 1 has rule 1", x.waits(1, 0, 1), 1);
        due("5", x.land(1, 2), true);
        due("5: rule 2 is empty", x.waits(1, 0, 1), 0);
        due("5", x.land(0, 3), true);
        due("5: the land of y's road is nothing to it", x.waits(1, 1, 0), 1);
    }

    private static void fights() {
        FourPalms x = new FourPalms();
        due("6: straight ones that cross", x.fight(0, 0, 2, 1, 3), 1);
        due("6: straight ones that meet", x.fight(0, 0, 2, 2, 0), 0);
        due("6: to the same road", x.fight(0, 0, 1, 2, 1), 1);
        due("6: left and straight from ahead", x.fight(0, 0, 3, 2, 0), 1);
        due("6: both left from ahead", x.fight(0, 0, 3, 2, 1), 0);
        due("6: right ones", x.fight(0, 0, 1, 1, 2), 0);
        due("6: and the other way round", x.fight(0, 2, 0, 0, 3), 1);
        due("6: right", x.fight(0, 3, 0, NONE, 99), 1);
        due("6: left", x.fight(0, 0, 3, NONE, 99), 2);
        due("6: straight", x.fight(0, 1, 3, NONE, 99), 0);
        due("6: back", x.fight(0, 1, 1, NONE, 0), NONE);
        due("6: of one road", x.fight(0, 0, 1, 0, 2), NONE);
        due("6", x.fight(0, 0, 1, 2, 2), NONE);
        due("6", x.fight(0, 0, 4, 1, 2), NONE);
        due("6", x.fight(0, 0, 1, 4, 2), NONE);
        due("6", x.fight(0, 0, 1, -2, 2), NONE);
        due("6", x.fight(0, 0, 1, 2, -1), NONE);
        due("6", x.fight(6, 0, 1, NONE, 2), NONE);
        due("6", x.fight(0, -1, 1, NONE, 2), NONE);
        x.crossing(1, 3);
        due("6: three roads, right", x.fight(1, 2, 0, NONE, 0), 1);
        due("6: three roads, left", x.fight(1, 0, 2, NONE, 0), 2);
        x.crossing(2, 6);
        due("6: six roads, straight", x.fight(2, 0, 2, NONE, 0), 0);
        due("6: six roads, straight", x.fight(2, 0, 4, NONE, 0), 0);
        due("6: six roads", x.fight(2, 0, 2, 3, 5), 0);
        due("6: six roads", x.fight(2, 0, 3, 2, 5), 1);
    }

    private static void carts() {
        FourPalms x = new FourPalms();
        due("7", x.cart(0, 0, 1, 3, 9, 99, 2), true);
        int[] is = {1, 3, 9, 99, 2, 0};
        for (int what = 0; what < 6; what++) {
            due("8", x.of(0, 0, what), is[what]);
        }
        due("7: to its own road", x.cart(0, 0, 0, 0, 0, 0, 0), false);
        due("7", x.cart(0, 0, 4, 0, 0, 0, 0), false);
        due("7", x.cart(0, 0, -2, 0, 0, 0, 0), false);
        due("7", x.cart(0, 0, 1, 4, 0, 0, 0), false);
        due("7", x.cart(0, 0, 1, -1, 0, 0, 0), false);
        due("7", x.cart(0, 0, 1, 0, 10, 0, 0), false);
        due("7", x.cart(0, 0, 1, 0, 0, 100, 0), false);
        due("7", x.cart(0, 0, 1, 0, 0, -1, 0), false);
        due("7", x.cart(0, 0, 1, 0, 0, 0, 3), false);
        due("7", x.cart(0, 4, 1, 0, 0, 0, 0), false);
        due("7", x.cart(-1, 0, 1, 0, 0, 0, 0), false);
        due("7: a false call changes nothing", x.of(0, 0, 3), 99);
        due("7: none, the rest not looked at", x.cart(0, 0, NONE, 99, 99, 999, 9), true);
        due("8: none", x.of(0, 0, 0), NONE);
        due("7: none where none is", x.cart(0, 0, NONE, 0, 0, 0, 0), true);
        due("7: no such road", x.cart(0, 4, NONE, 0, 0, 0, 0), false);
        due("8", x.of(0, 4, 0), NONE - 1);
        due("8", x.of(6, 0, 0), NONE - 1);
        due("8", x.of(0, 0, 6), NONE - 1);
        due("8", x.of(0, 0, -1), NONE - 1);
        x.cart(0, 0, 2, 0, 0, 0, 1);
        x.cart(0, 1, 3, 0, 0, 0, 1);
        x.run(0, 2);
        due("8: stay", x.of(0, 0, 5), 2);
        x.cart(0, 0, 2, 0, 0, 0, 1);
        due("7: a new one came now", x.of(0, 0, 5), 0);
    }

    private static void tapes() {
        FourPalms x = new FourPalms();
        for (int i = 1; i <= 20; i++) {
            due("9", x.feed(1, 2, 3, 4, 5), 20 * i);
        }
        due("9: full", x.feed(1, 2, 3, 4, 5), NONE);
        due("10", x.end(401), false);
        due("10", x.end(-1), false);
        due("10", x.end(400), true);
        due("10", x.end(381), true);
        due("9: one too many", x.feed(1, 2, 3, 4, 5), NONE);
        due("10", x.end(380), true);
        due("9", x.feed(1, 2, 3, 4, 5), 400);
        due("10", x.end(0), true);
        due("10", x.end(1), false);
        due("9: the highest byte first", x.feed('g' << 24 | 'o' << 16 | ';' << 8 | ' ', 0, 0, 0, 0), 20);
        due("10", x.end(4), true);
        due("11", x.rule(0), 1);
        due("11: the tape is empty", x.end(1), false);
    }

    private static void rules() {
        fine("", 0);
        fine(" \n ", 0);
        fine("go;", 1);
        fine("wait;go;wait when right=1;", 3);
        fine("wait when(right=1)and not(left=1);", 1);
        fine("wait when 9999 = 0000;", 1);
        fine("go;go;go;go;go;go;go;go;go;go;go;go;go;go;go;go;", 16);
        fine("wait when not not not not ((((1=1))));", 1);
        fine("wait when not 1=1 and not 1=1 or not 1=1 and not 1=1 or not 1=1 and not 1=1 and not 1=1 and not 1=1 or not 1=1;", 1);
        fine("wait when (((((((1=1)))))))and((((((((1=1))))))));", 1);
        fine("wait when not (not 1=1) and not((((((1=1))))));", 1);
        fault("go; wait", 1, 8);
        fault("go; wait  ", 1, 10);
        fault("go; Wait;", 1, 4);
        fault("go; waits;", 1, 4);
        fault("goZ;", 1, 0);
        fault("goA;", 1, 0);
        fault("go[;", 1, 2);
        fault("go@;", 1, 2);
        fault("go;; ", 1, 3);
        fault("wait when;", 1, 9);
        fault("wait when right;", 1, 15);
        fault("wait when right = ;", 1, 18);
        fault("wait when right = 1 = 1;", 1, 20);
        fault("wait when right = 1 + ;", 1, 22);
        fault("wait when (right) = 1;", 1, 16);
        fault("wait when (right = 1;", 1, 20);
        fault("wait when right = 1);", 1, 19);
        fault("wait when right = 1 and;", 1, 23);
        fault("wait when right = 1 not left = 1;", 1, 20);
        fault("wait when right = 1 go;", 1, 20);
        fault("wait when right = (1);", 1, 18);
        fault("wait when right / left = 1;", 1, 18);
        fault("wait when 1 = 12345;", 1, 14);
        fault("wait when -1 = 1;", 1, 10);
        fault("wait when 1 = 1?;", 1, 15);
        fault("wait when\t1 = 1;", 1, 9);
        fault("wait when 1 = \u00e9;", 1, 14);
        fault("wait when 1 / 0 = 1;", 2, 14);
        fault("wait when 1 / 0000 = 1 ?", 2, 14);
        fault("wait when 1 / 00000 = 1;", 1, 14);
        fault("wait when 1 ? / 0 = 1;", 1, 12);
        fault("go;go;go;go;go;go;go;go;go;go;go;go;go;go;go;go; go;", 3, 49);
        fault("go;go;go;go;go;go;go;go;go;go;go;go;go;go;go;go;;", 1, 48);
        fault("wait when (((((((((1=1)))))))));", 3, 18);
        fault("wait when not not not not not not not not not 1=1;", 3, 42);
        fault("wait when not(not(not(not(not 1=1))));", 3, 26);
        fine("wait when ((((((((1=1)and not 1=1)or not not 1=1))))));", 1);
        fault("wait when ((((((((1=1)and not 1=1)or not not not 1=1))))));", 3, 45);
        FourPalms x = new FourPalms();
        tape(x, "go; ?");
        due("11: a fault", x.rule(0), NONE);
        tape(x, "go;");
        due("11: no such rule", x.rule(4), NONE);
        due("12: no such rule", x.fault(0), 0);
        due("12: no such rule", x.fault(1), NONE);
        due("11: the tape is empty, too", x.end(1), false);
        due("11: no such rule", x.rule(-1), NONE);
        due("12", x.fault(2), NONE);
        due("12", x.fault(-1), NONE);
        due("11: an empty one", x.rule(0), 0);
    }

    private static void conditions() {
        so("right = 1 and left = 0", true);
        so("size = 2 and osize = 3", true);
        so("turn = 0 and oturn = 2", true);
        so("load = 4 and oload = 9", true);
        so("slope = 1 and oslope = 0", true);
        so("sort = 1 and osort = 3", true);
        so("sign = 0 and osign = 2", true);
        so("first = 1 and roads = 4", true);
        so("right = 0 or left = 1", false);
        so("1 + 2 * 3 = 7", true);
        so("10 - 4 - 3 = 3", true);
        so("2 * 7 / 2 * 2 = 14", true);
        so("1 + 7 / 2 = 4", true);
        so("9999 * 9999 * 9999 / 2 * 2 = 9999 * 9999 * 9999 + 1", true);
    }

    private static void numbers() {
        so("0 - 7 = 0 - 7", true);
        so("load - oload * 3 = 0 - 23", true);
        so("9999 * 9999 * 9999 < 0", true);
        so("1 > 2 or 1 < 2", true);
        so("1 = 1 or 1 = 1 and 1 = 2", true);
        so("(1 = 1 or 1 = 1) and 1 = 2", false);
        so("not 1 = 1 or 1 = 1", true);
        so("not (1 = 1 or 1 = 1)", false);
        so("not not 1 = 1", true);
        so("1 < 1", false);
        so("1 > 1", false);
    }

    private static void waiting() {
        FourPalms x = new FourPalms();
        told(x, 0, "go when size > osize; wait when right = 1 or first = 1; go;");
        x.cart(0, 0, 2, 0, 0, 5, 0);
        x.cart(0, 1, 3, 0, 0, 5, 0);
        x.cart(0, 2, 0, 0, 0, 4, 0);
        due("13: right", x.waits(0, 0, 1), 1);
        due("13: not right, alike ranks", x.waits(0, 1, 0), 0);
        due("13: they don't fight", x.waits(0, 0, 2), 0);
        due("13: first", x.waits(0, 1, 2), 1);
        x.road(0, 1, 0, 1);
        due("13: the first line that is so", x.waits(0, 1, 2), 0);
        due("13: no cart", x.waits(0, 0, 3), NONE);
        due("13: no cart", x.waits(0, 3, 0), NONE);
        due("13: itself", x.waits(0, 0, 0), NONE);
        due("13", x.waits(0, 0, 4), NONE);
        due("13", x.waits(6, 0, 1), NONE);
        x.cart(0, 1, 3, 0, 0, 5, 1);
        due("13: it waves", x.waits(0, 1, 2), 1);
        due("13: it waves", x.waits(0, 1, 0), 1);
        x.cart(0, 0, 2, 0, 0, 5, 1);
        due("13: waves, but they don't fight", x.waits(0, 0, 2), 0);
        x.cart(0, 0, 2, 0, 0, 5, 2);
        due("13: doesn't know", x.waits(0, 0, 1), 0);
        due("14: may go", x.now(0, 0), 5);
        due("14: there", x.now(0, 3), 7);
        due("14: stuck", x.now(0, 1), 0);
        due("14: both", x.now(0, 2), 0);
        x.cart(0, 1, 3, 0, 0, 5, 2);
        due("14: may go", x.now(0, 0), 7);
        due("14: both", x.now(0, 2), 1);
        x.cart(0, 1, 3, 0, 0, 5, 1);
        x.cart(0, 0, 2, 0, 0, 5, 1);
        x.cart(0, 2, NONE, 0, 0, 0, 0);
        due("14: both wave", x.now(0, 0), 0);
        due("14: stuck", x.now(0, 1), 1);
        due("14", x.now(0, 4), NONE);
        due("14", x.now(0, -1), NONE);
        due("14", x.now(6, 0), NONE);
    }

    private static void circles() {
        FourPalms x = new FourPalms();
        told(x, 0, RIGHT);
        for (int r = 0; r < 4; r++) {
            x.cart(0, r, (r + 2) % 4, 0, 0, 0, 0);
        }
        due("15", x.circle(0, 0), 4);
        for (int r = 0; r < 4; r++) {
            due("15", x.circle(0, 10 + r), r);
        }
        due("15", x.circle(0, 14), NONE);
        due("15", x.circle(0, 9), NONE);
        due("15", x.circle(0, 1), NONE);
        due("15", x.circle(0, -1), NONE);
        due("15", x.circle(0, Integer.MAX_VALUE), NONE);
        due("15", x.circle(0, Integer.MIN_VALUE), NONE);
        due("15", x.circle(6, 0), NONE);
        x.cart(0, 1, 3, 0, 0, 0, 2);
        due("15: one may go", x.circle(0, 0), 0);
        due("15: none", x.circle(0, 10), NONE);
        x.crossing(1, 4);
        told(x, 0, "");
        x.cart(1, 0, 2, 0, 0, 0, 1);
        x.cart(1, 1, 3, 0, 0, 0, 1);
        x.cart(1, 3, 1, 0, 0, 0, 1);
        due("15: always the least road", x.circle(1, 0), 2);
        due("15", x.circle(1, 10), 0);
        due("15", x.circle(1, 11), 1);
        x.cart(1, 0, 1, 0, 0, 0, 1);
        x.cart(1, 1, 3, 0, 0, 0, 1);
        x.cart(1, 2, 1, 0, 0, 0, 1);
        x.cart(1, 3, NONE, 0, 0, 0, 0);
        due("15: from the one that comes again", x.circle(1, 0), 2);
        due("15", x.circle(1, 10), 0);
        due("15", x.circle(1, 11), 2);
        due("15: no carts", x.circle(2, 0), 0);
    }

    private static void circleOfSix() {
        FourPalms x = new FourPalms();
        told(x, 0, RIGHT);
        x.crossing(0, 6);
        for (int r = 0; r < 6; r++) {
            x.cart(0, r, (r + 3) % 6, 0, 0, 0, 0);
        }
        due("15: of six", x.circle(0, 0), 6);
        for (int r = 0; r < 6; r++) {
            due("15: of six", x.circle(0, 10 + r), r);
        }
        due("15: of six", x.circle(0, 16), NONE);
        due("17: of six", x.cleared(0, 1), 6);
        x.cart(0, 3, 4, 0, 0, 0, 2);
        due("17: 2 and 3 at once, then one after the other", x.cleared(0, 0), 5);
    }

    /** Each waits for the one with the next load: a ring of four, but two of them come by the same road. */
    private static void knots() {
        FourPalms x = new FourPalms();
        told(x, 0, "wait when oload = load + 1 or load = 4 and oload = 1;");
        told(x, 1, "go;");
        x.comer(0, 0, 2, 0, 1);
        x.comer(0, 1, 3, 0, 2);
        x.comer(0, 0, 2, 0, 3);
        x.comer(0, 3, 1, 0, 4);
        due("25: they can't be there at once", x.holds(0), 63);
        due("20", x.ever(0, 1), 0);
        due("20", x.ever(0, 2), 0);
        due("29", x.signs(0), 0);
        x.comer(1, 0, 2, 0, 1);
        x.comer(1, 1, 3, 0, 2);
        x.comer(1, 2, 0, 0, 3);
        x.comer(1, 3, 1, 0, 4);
        due("25: they can", x.holds(0), 61);
        due("20: in 24 orders", x.ever(1, 1), 24);
        due("20", x.ever(1, 3), 4);
        due("29: whatever the signs", x.signs(1), NONE);
        due("30: whatever the lands", x.border(1, 0), 16);
        due("30: all of land 0 are good", x.border(0, 1), 1);
    }

    private static void tailOfCircle() {
        FourPalms x = new FourPalms();
        told(x, 0, "wait when size = 0 and osize = 1; wait when size = 1 and osize = 2; wait when size = 2 and osize = 1;");
        x.road(0, 1, 0, 1);
        x.road(0, 2, 0, 2);
        x.cart(0, 0, 2, 0, 0, 0, 0);
        x.cart(0, 1, 3, 0, 0, 0, 0);
        x.cart(0, 2, 0, 0, 0, 0, 0);
        due("15: 0 leads in, but is not of it", x.circle(0, 0), 2);
        due("15", x.circle(0, 10), 1);
        due("15", x.circle(0, 11), 2);
        due("15", x.circle(0, 12), NONE);
    }

    private static void meanings() {
        FourPalms x = new FourPalms();
        told(x, 0, "wait when first = 1;");
        x.cart(0, 0, 2, 0, 0, 3, 0);
        x.cart(0, 1, 3, 0, 0, 3, 0);
        due("16: ranks alike", x.meant(0, 0), 3);
        due("16: stays alike", x.meant(0, 1), 3);
        due("16: nobody is first", x.meant(0, 2), 3);
        due("16: less or alike", x.meant(0, 3), 0);
        x.cart(0, 1, 3, 0, 0, 2, 0);
        due("16", x.meant(0, 0), 2);
        due("16", x.meant(0, 3), 2);
        due("16", x.meant(0, 2), 3);
        x.run(0, 1);
        x.cart(0, 1, 3, 0, 0, 2, 0);
        due("16: road 1 has the lesser rank", x.meant(0, 0), 2);
        due("16: road 0 stays longer", x.meant(0, 1), 1);
        due("16", x.meant(0, 4), NONE);
        due("16", x.meant(0, -1), NONE);
        due("16", x.meant(6, 0), NONE);
        due("16: nobody there", x.meant(1, 0), 0);
    }

    private static void clearing() {
        FourPalms x = new FourPalms();
        told(x, 0, RIGHT);
        x.cart(0, 0, 2, 0, 0, 0, 0);
        x.cart(0, 1, 3, 0, 0, 0, 0);
        x.cart(0, 2, 0, 0, 0, 0, 0);
        due("17: one by one", x.cleared(0, 0), 3);
        due("17: none is left", x.cleared(0, 1), 0);
        due("17: no two fight", x.cleared(0, 2), 0);
        due("17: nothing of it stays", x.now(0, 3), 7);
        x.cart(0, 3, 1, 0, 0, 0, 0);
        due("17: stuck", x.cleared(0, 0), 0);
        due("17: stuck", x.cleared(0, 1), 4);
        told(x, 0, "");
        due("17: all at once", x.cleared(0, 0), 1);
        due("17: and crash, which is one time", x.cleared(0, 2), 1);
        due("17", x.cleared(0, 3), NONE);
        due("17", x.cleared(0, -1), NONE);
        due("17", x.cleared(6, 0), NONE);
        due("17: nobody there", x.cleared(1, 0), 0);
    }

    private static void judging() {
        FourPalms x = new FourPalms();
        told(x, 0, RIGHT);
        x.cart(0, 0, 2, 0, 0, 0, 0);
        x.cart(0, 1, 3, 0, 0, 0, 0);
        due("18: the empty set", x.judge(0, 0), NONE - 1);
        due("18: no such roads", x.judge(0, 16), NONE - 1);
        due("18", x.judge(0, -1), NONE - 1);
        due("18", x.judge(6, 1), NONE - 1);
        due("18: may not go", x.judge(0, 3), 0);
        due("18: nobody there", x.judge(0, 14), 2);
        due("18: nothing is done", x.now(0, 3), 3);
        due("18: goes", x.judge(0, 2), NONE);
        due("18: has gone", x.now(0, 3), 1);
        due("18: not by the days", x.count(0, 3), 0);
        due("18: goes", x.judge(0, 1), NONE);
        told(x, 0, "");
        x.cart(0, 1, 2, 0, 0, 0, 0);
        x.cart(0, 2, 0, 0, 0, 0, 0);
        x.cart(0, 3, 1, 0, 0, 0, 0);
        due("18: may go, but fights with a greater one", x.judge(0, 14), 2);
        due("18: they don't fight", x.judge(0, 6), NONE);
        due("18", x.now(0, 3), 8);
    }

    private static void comers() {
        FourPalms x = new FourPalms();
        due("19", x.comer(0, 0, 1, 3, 9), 1);
        due("19", x.comer(0, 0, 0, 0, 0), NONE);
        due("19", x.comer(0, 0, 4, 0, 0), NONE);
        due("19", x.comer(0, 0, -2, 0, 0), NONE);
        due("19", x.comer(0, 0, 1, 4, 0), NONE);
        due("19", x.comer(0, 0, 1, 0, 10), NONE);
        due("19", x.comer(0, 0, 1, -1, 0), NONE);
        due("19", x.comer(0, 4, 1, 0, 0), NONE);
        due("19", x.comer(-1, 0, 1, 0, 0), NONE);
        due("19: alike", x.comer(0, 0, 1, 3, 9), 2);
        due("19: there are two", x.comer(0, 0, 2, 0, 0), NONE);
        due("20: 2 in each of 24 orders", x.ever(0, 0), 48);
        due("19: none any more", x.comer(0, 0, NONE, 99, 99), 0);
        due("19: no such road", x.comer(0, 4, NONE, 0, 0), NONE);
        due("20", x.ever(0, 0), 0);
    }

    private static void evers() {
        FourPalms x = new FourPalms();
        told(x, 0, FIRST);
        due("20", x.ever(0, 1), 0);
        due("20", x.ever(0, 3), NONE);
        x.comer(0, 0, 2, 1, 3);
        x.comer(0, 1, 3, 2, 4);
        due("20: 3 numbers in 24 orders", x.ever(0, 0), 72);
        due("20: who came first goes first", x.ever(0, 1), 0);
        due("20", x.ever(0, 2), 0);
        due("21: there is none", x.lay(0, 0), false);
        told(x, 0, "wait;");
        due("20: both wait, in 24 orders", x.ever(0, 1), 24);
        due("20", x.ever(0, 3), 2);
        due("20", x.ever(0, 4), NONE);
        due("21", x.lay(0, 1), false);
        x.cart(0, 3, 1, 0, 0, 50, 1);
        due("21", x.lay(0, 0), true);
        due("21: in place of its carts", x.now(0, 3), 3);
        int[] is = {3, 2, 4, 1, 0, 0};
        for (int what = 0; what < 6; what++) {
            due("21", x.of(0, 1, what), is[what]);
        }
        told(x, 0, "go when first = 1;");
        due("20: nobody waits", x.ever(0, 2), 24);
        told(x, 0, "wait when first = 0;");
        due("20: the later one goes", x.ever(0, 1), 0);
        due("20", x.ever(0, 5), NONE);
        due("20", x.ever(0, -1), NONE);
        due("20", x.ever(6, 0), NONE);
        due("21", x.lay(0, 2), false);
        due("21", x.lay(0, -1), false);
        due("21", x.lay(6, 0), false);
        due("21: nothing is done", x.now(0, 3), 3);
    }

    private static void leastOfSeveral() {
        FourPalms x = new FourPalms();
        x.crossing(0, 3);
        told(x, 0, "wait when first = 1; wait when size > osize;");
        x.road(0, 1, 0, 1);
        x.comer(0, 0, 1, 0, 0);
        x.comer(0, 1, 0, 0, 5);
        x.comer(0, 1, 0, 0, 6);
        x.comer(0, 2, 1, 0, 1);
        // the two of roads 0 and 2 fight and do by first alone; 1 waits for both: stuck where it came ahead
        due("20: the fewest carts", x.ever(0, 3), 2);
        due("21", x.lay(0, 0), true);
        due("21: of numbers the first: 0 1 1", x.now(0, 3), 6);
        due("21: its first comer", x.of(0, 1, 2), 5);
        due("21: of orders the first: 0 1 2", x.of(0, 1, 3), 1);
        due("21", x.of(0, 2, 3), 2);
        x.comer(0, 2, NONE, 0, 0);
        due("21: 0 and 1 don't fight", x.lay(0, 0), false);
        x.crossing(1, 3);
        x.road(1, 2, 0, 1);
        x.comer(1, 1, 0, 0, 0);
        x.comer(1, 2, 1, 0, 0);
        due("21: stuck where 2 is ahead of 1", x.lay(1, 0), true);
        due("21: of orders the first, 0 2 1", x.of(1, 2, 3), 1);
        due("21", x.of(1, 1, 3), 2);
        x.comer(1, 1, NONE, 0, 0);
        x.comer(1, 2, NONE, 0, 0);
        told(x, 1, "go when first = 0; wait;");
        x.land(0, 1);
        x.comer(1, 0, 1, 0, 0);
        x.comer(1, 2, 1, 0, 0);
        due("20: it goes whose other one is later", x.ever(1, 1), 0);
    }

    private static void orders() {
        FourPalms x = new FourPalms();
        told(x, 0, "wait when first = 1 and left = 1; wait when first = 0 and right = 1;");
        for (int n = 3; n <= 6; n++) {
            x.crossing(0, n);
            for (int r = 0; r < n; r++) {
                x.comer(0, r, (r + n - 1) % n, 0, 0);
            }
            int numbers = (1 << n) - 1;
            int[] many = {6, 24, 5, 6};
            due("20: orders of " + n, x.ever(0, 0), numbers * many[n - 3]);
        }
        // two roads of five: 1 is ahead of 3 but where the order begins with 2 or 3
        x.crossing(1, 5);
        told(x, 1, "wait when size = 1 and first = 1; go;");
        x.land(0, 1);
        x.road(1, 3, 0, 1);
        x.comer(1, 1, 4, 0, 0);
        x.comer(1, 3, 4, 0, 0);
        due("20: nobody waits in 2 orders", x.ever(1, 2), 2);
        due("21", x.lay(1, 1), true);
        due("21: begins with 2", x.of(1, 1, 3), 4);
        due("21", x.of(1, 3, 3), 1);
        due("22: alone in 5, with 1 ahead in 3 of 5", x.odds(1, 3), 300);
        // permutations by numbers: 1 2 0 is ahead of 2 0 1
        x.crossing(2, 3);
        told(x, 2, "wait when size = 1 and first = 0; wait when osize = 1 and first = 0; wait when size = 2;");
        x.land(0, 2);
        x.road(2, 0, 0, 1);
        x.road(2, 1, 0, 2);
        x.comer(2, 0, 2, 0, 0);
        x.comer(2, 1, 2, 0, 0);
        due("20", x.ever(2, 1), 3);
        due("21", x.lay(2, 0), true);
        due("21: 0 1 2", x.of(2, 0, 3), 0);
    }

    private static void oddsAndCouples() {
        FourPalms x = new FourPalms();
        told(x, 0, RIGHT);
        due("22: no comers", x.odds(0, 0), NONE);
        due("22", x.odds(0, 4), NONE - 1);
        due("22", x.odds(6, 0), NONE - 1);
        x.comer(0, 0, 2, 0, 0);
        due("22: alone", x.odds(0, 0), 0);
        x.comer(0, 1, 3, 0, 0);
        x.comer(0, 1, 0, 0, 0);
        // of 0 with road 1 empty, straight, left: it waits for two of three
        due("22: downwards", x.odds(0, 0), 666);
        due("22", x.odds(0, 1), 0);
        due("22: a road without comers", x.odds(0, 2), NONE);
        due("23: none", x.mutual(0), 0);
        told(x, 0, "wait;");
        due("23: two couples in 24 orders", x.mutual(0), 48);
        x.comer(0, 3, 2, 0, 0);
        // 3 fights with 0 (to 2) and with 1 that goes left to 0; straight 1 goes to 3
        int couples = x.mutual(0);
        due("23: over all that can come", couples, mutualByHand());
        told(x, 0, FIRST);
        due("23: one is first", x.mutual(0), 0);
        due("23", x.mutual(6), NONE);
        due("23", x.mutual(-1), NONE);
    }

    /** Of comers 0 to 2, 1 to 3 or 0, 3 to 2: couples that fight, each in all states of the others, in 24 orders. */
    private static int mutualByHand() {
        FourPalms x = new FourPalms();
        int couples = 0;
        couples += 2 * x.fight(0, 0, 2, 1, 3);
        couples += 2 * x.fight(0, 0, 2, 1, 0);
        couples += 3 * x.fight(0, 0, 2, 3, 2);
        couples += 2 * x.fight(0, 1, 3, 3, 2);
        couples += 2 * x.fight(0, 1, 0, 3, 2);
        return 24 * couples;
    }

    private static void usedAndHolds() {
        FourPalms x = new FourPalms();
        told(x, 3, "go when load > 8; wait when first = 1; go when right = 1; wait; go;");
        due("24: nobody comes", x.used(3, 0), 0);
        x.comer(0, 0, 2, 0, 9);
        x.comer(0, 2, 0, 0, 9);
        due("24: they don't fight", x.used(3, 0), 0);
        x.comer(0, 1, 3, 0, 0);
        due("24: go; first; straight from the right", x.used(3, 0), 15);
        x.comer(0, 2, NONE, 0, 0);
        due("24: 0 is to the left of 1", x.used(3, 0), 11);
        due("24: an empty rule", x.used(2, 0), 0);
        due("24", x.used(4, 0), NONE);
        due("24", x.used(-1, 0), NONE);
        due("24", x.used(0, 6), NONE);
        due("25: with load 9 it doesn't wait, and 1 waits or not", x.holds(3), 63);
        told(x, 2, "go;");
        due("25: both go", x.holds(2), 62);
        x.comer(3, 0, 2, 0, 9);
        x.comer(3, 1, 3, 0, 9);
        due("25: both go, at 3", x.holds(3), 55);
        told(x, 1, "wait;");
        due("25: both wait", x.holds(1), 54);
        due("25", x.holds(4), NONE);
        due("25", x.holds(-1), NONE);
    }

    private static void starving() {
        FourPalms x = new FourPalms();
        told(x, 0, RIGHT);
        x.comer(0, 0, 2, 0, 0);
        x.comer(0, 1, 3, 0, 0);
        due("26: 0 waits, though first", x.starve(0), 1);
        told(x, 0, "go when first = 0; wait when right = 1;");
        due("26: who is first doesn't", x.starve(0), 0);
        told(x, 0, "wait;");
        due("26: both wait", x.starve(0), 0);
        told(x, 1, "wait when roads = 4;");
        told(x, 0, "");
        x.road(0, 1, 3, 1);
        due("26: by the lands", x.starve(0), 2);
        told(x, 1, "wait when first = 1;");
        due("26: just when the other one is first", x.starve(0), 0);
        due("26: no comers", x.starve(1), 0);
        due("26", x.starve(6), NONE);
        due("26", x.starve(-1), NONE);
    }

    private static void wordings() {
        FourPalms x = new FourPalms();
        due("27: nobody comes", x.shortest(63, 0), 1);
        due("27", x.shortest(63, 1), 1);
        due("27", x.shortest(63, 2), 15);
        x.crossing(0, 3);
        for (int r = 0; r < 3; r++) {
            x.comer(0, r, (r + 2) % 3, 0, 0);
        }
        due("28: right", x.sound(1, 1), 0);
        due("28: left", x.sound(1, 2), 0);
        due("28: first", x.sound(1, 3), 1);
        due("28: size", x.sound(1, 4), 0);
        due("28: go when first", x.sound(1, 11), 0);
        due("27", x.shortest(1, 0), 3);
        due("27: with 1 word", x.shortest(1, 1), 1);
        due("27: no rival", x.shortest(1, 2), 0);
        due("28: first and whatever else", x.sound(1, 17 * 3 + 9), 1);
        due("28: whatever isn't so and first", x.sound(1, 17 * 4 + 3), 1);
        due("28: go at the right, and first", x.sound(1, 17 * 9 + 3), 0);
        due("28", x.sound(1, 0), NONE);
        due("28", x.sound(1, 17), NONE);
        due("28", x.sound(1, 18), 0);
        due("28", x.sound(1, 34), NONE);
        due("28", x.sound(1, 288), 0);
        due("28", x.sound(1, 289), NONE);
        due("28", x.sound(1, -1), NONE);
        due("28", x.sound(0, 1), NONE);
        due("28", x.sound(64, 1), NONE);
        due("28: those not told", x.sound(62, 1), 1);
        due("27", x.shortest(0, 0), NONE);
        due("27", x.shortest(64, 0), NONE);
        due("27", x.shortest(-1, 0), NONE);
        due("27", x.shortest(1, 3), NONE);
        due("27", x.shortest(1, -1), NONE);
        due("28", x.sound(-1, 1), NONE);
        told(x, 0, "wait;");
        due("28: in place of all rules", x.sound(1, 3), 1);
    }

    private static void words() {
        int[] ways = {3, 4, 5, 6, 7};
        for (int word : ways) {
            FourPalms x = new FourPalms();
            // 0 and 1 fight; the word is so for 0 of 1, and not the other way round
            int to = word == 4 || word == 5 ? 3 : 2;
            int other = word == 5 ? 0 : 3;
            if (word == 5) {
                x.comer(0, 0, 3, 0, 0);
                x.comer(0, 1, 3, 0, 0);
            } else {
                x.comer(0, 0, to, 0, 2);
                x.comer(0, 1, other, 0, word == 6 ? 3 : 2);
            }
            x.road(0, 1, 0, word == 3 ? 1 : 0);
            x.road(0, 0, 2, word == 7 ? 2 : 0);
            due("28: word " + word, x.sound(1, word + 1), 1);
            due("28: go when " + word, x.sound(1, word + 9), 0);
            for (int another : ways) {
                boolean leftOfStraight = word == 4 && another == 5 || word == 5 && another == 4;
                if (another != word && !leftOfStraight) {
                    due("28: word " + another + " where " + word + " is so", x.sound(1, another + 1), 0);
                }
            }
        }
        FourPalms x = new FourPalms();
        x.comer(0, 0, 2, 0, 0);
        x.comer(0, 3, 2, 0, 0);
        due("28: left of straight", x.sound(1, 6), 1);
        due("28: not straight of straight", x.sound(1, 5), 1);
        x.comer(0, 0, NONE, 0, 0);
        x.comer(0, 0, 3, 0, 0);
        x.comer(0, 3, NONE, 0, 0);
        x.comer(0, 2, 3, 0, 0);
        due("28: left of right", x.sound(1, 6), 1);
        due("28: right isn't straight", x.sound(1, 5), 0);
        due("28: of two the first that is so", x.sound(1, 17 * 6 + 14), 1);
        due("28: of two the first that is so", x.sound(1, 17 * 14 + 6), 0);
    }

    private static void signsAndBorders() {
        FourPalms x = new FourPalms();
        due("29: nobody comes", x.signs(0), 0);
        x.comer(0, 1, 3, 0, 0);
        x.comer(0, 2, 0, 0, 0);
        x.comer(0, 2, 1, 0, 0);
        told(x, 0, "wait when sign > osign; go when osign > sign;");
        due("29: of several the least", x.signs(0), 2);
        x.road(0, 1, 2, 2);
        due("29: in place of those there", x.signs(0), 2);
        x.comer(0, 3, 1, 0, 0);
        // 1 is straight, 2 straight or left (that doesn't fight with 1 .. it does at 3), 3 straight from ahead
        due("29: one is enough", x.signs(0), 4);
        told(x, 0, "wait when sign = 2;");
        due("29: yields are no stops", x.signs(0), NONE);
        told(x, 0, "wait when first = 1;");
        due("29: none needed", x.signs(0), 0);
        x.crossing(2, 3);
        for (int r = 0; r < 3; r++) {
            x.comer(2, r, (r + 2) % 3, 0, 0);
        }
        told(x, 0, "wait when sign = 1 and osign = 1 and first = 1;");
        due("29: all are needed", x.signs(2), 7);
        told(x, 0, "wait when first = 1;");
        due("29", x.signs(6), NONE);
        due("29", x.signs(-1), NONE);
        told(x, 1, "wait when first = 0;");
        due("30: nobody comes", x.border(1, 0), 0);
        due("30", x.border(1, 1), NONE);
        x.comer(1, 0, 2, 0, 0);
        x.comer(1, 1, 3, 0, 0);
        // alike lands do; unlike ones do not: both ask the same of one order, the other one goes
        due("30: 16 ways, half of them unlike", x.border(1, 0), 8);
        due("30: the least", x.border(1, 1), 1);
        x.road(1, 0, 3, 1);
        due("30: in place of theirs", x.border(1, 0), 8);
        x.land(1, 0);
        due("30: one rule", x.border(1, 0), 0);
        x.land(0, 2);
        x.land(1, 2);
        due("30: an empty rule", x.border(1, 0), 16);
        due("30", x.border(1, 1), 0);
        due("30", x.border(1, 2), NONE);
        due("30", x.border(1, -1), NONE);
        due("30", x.border(6, 0), NONE);
    }

    private static void runs() {
        FourPalms x = new FourPalms();
        told(x, 0, RIGHT);
        due("31", x.run(0, 0), NONE);
        due("31", x.run(0, 61), NONE);
        due("31", x.run(-1, 1), NONE);
        due("31", x.run(6, 1), NONE);
        due("31: nobody", x.run(0, 60), 0);
        due("33: ticks", x.count(0, 0), 60);
        due("33: who isn't there doesn't stand", x.count(0, 2), 0);
        due("31: no draws without comers", x.look(3), 0);
        x.comer(0, 0, 2, 2, 7);
        due("31: never by chance 0", x.run(0, 1), 0);
        due("31: but a draw", x.look(3), 1013904223);
        x.road(0, 0, 4, 100);
        due("31: one a tick", x.run(0, 39), 39);
        x.cart(0, 1, 3, 0, 0, 0, 1);
        x.cart(0, 0, 2, 0, 0, 0, 1);
        due("31: both wave", x.run(0, 30), 0);
        due("32: gone", x.days(0, 0, 0), 39);
        due("32: wait", x.days(0, 0, 1), 30);
        due("32: longest", x.days(0, 0, 2), 30);
        due("32: mean", x.days(0, 0, 3), 3000 / 39);
        due("32: in the row", x.days(0, 0, 4), 20);
        due("32: mean of none", x.days(0, 1, 3), NONE);
        due("32: wait", x.days(0, 1, 1), 30);
        due("8: stay", x.of(0, 1, 5), 30);
        due("33: stood", x.count(0, 2), 30);
        due("33: gone in all", x.count(0, 3), 39);
        x.cart(0, 1, NONE, 0, 0, 0, 0);
        due("31: it and 19 of its row", x.run(0, 20), 20);
        due("32: full at the first tick, one short at the end of each later one", x.days(0, 0, 4), 19);
        due("32: longest stays", x.days(0, 0, 2), 30);
        x.comer(0, 0, NONE, 0, 0);
        due("31: the row stays without comers", x.run(0, 30), 19);
        due("33: ticks", x.count(0, 0), 180);
        due("32", x.days(0, 0, 5), NONE - 1);
        due("32", x.days(0, 0, -1), NONE - 1);
        due("32", x.days(0, 4, 0), NONE - 1);
        due("32", x.days(6, 0, 0), NONE - 1);
        due("33", x.count(0, 4), NONE);
        due("33", x.count(0, -1), NONE);
        due("33", x.count(6, 0), NONE);
    }

    private static void crashes() {
        FourPalms x = new FourPalms();
        for (int r = 0; r < 4; r++) {
            x.comer(0, r, (r + 2) % 4, 1, 5);
            x.road(0, r, 4, 100);
        }
        due("31: all go at once", x.run(0, 10), 40);
        due("33: once a tick", x.count(0, 1), 10);
        due("33: gone in all", x.count(0, 3), 40);
        due("32: nobody waits", x.days(0, 3, 3), 0);
        for (int i = 0; i < 5; i++) {
            x.run(1, 60);
        }
        x.run(1, 37);
        x.comer(1, 0, 2, 3, 6);
        x.road(1, 0, 4, 100);
        x.cart(1, 1, 3, 0, 0, 0, 1);
        told(x, 0, "wait when right = 1;");
        x.run(1, 1);
        due("31: rank is ticks gone by modulo 100", x.of(1, 0, 3), 37);
        due("31: to", x.of(1, 0, 0), 2);
        due("31: sort", x.of(1, 0, 1), 3);
        due("31: load", x.of(1, 0, 2), 6);
        due("31: habit", x.of(1, 0, 4), 0);
        due("31: stay", x.of(1, 0, 5), 1);
    }

    private static void drawing() {
        FourPalms x = new FourPalms();
        x.comer(0, 1, 3, 0, 1);
        x.comer(0, 1, 3, 0, 2);
        x.comer(0, 2, 0, 0, 3);
        x.road(0, 1, 4, 60);
        x.road(0, 2, 4, 40);
        int state = 12345;
        x.state(state);
        int[] gone = new int[3];
        for (int tick = 0; tick < 50; tick++) {
            for (int r = 1; r < 3; r++) {
                state = state * 1664525 + 1013904223;
                if ((state >>> 8) % 100 < (r == 1 ? 60 : 40)) {
                    state = state * 1664525 + 1013904223;
                    gone[r]++;
                }
            }
        }
        due("31: as drawn", x.run(0, 50), gone[1] + gone[2]);
        due("31: a draw for one comer, too", x.look(3), state);
        due("32", x.days(0, 1, 0), gone[1]);
        due("32", x.days(0, 2, 0), gone[2]);
        x.crossing(1, 4);
        x.comer(1, 0, 2, 0, 1);
        x.comer(1, 0, 2, 0, 2);
        x.road(1, 0, 4, 100);
        x.cart(1, 1, 3, 0, 0, 0, 1);
        told(x, 0, "wait;");
        for (int i = 0; i < 9; i++) {
            x.cart(1, 0, NONE, 0, 0, 0, 0);
            state = state * 1664525 + 1013904223;
            state = state * 1664525 + 1013904223;
            x.run(1, 1);
            due("31: which comer", x.of(1, 0, 2), 1 + (state >>> 8) % 2);
        }
    }

    private static void links() {
        FourPalms x = new FourPalms();
        x.crossing(1, 3);
        due("34", x.link(0, 0, 1, 2, 9), true);
        due("34: to itself", x.link(0, 0, 0, 2, 0), false);
        due("34", x.link(0, 0, 6, 2, 0), false);
        due("34", x.link(0, 0, -2, 2, 0), false);
        due("34", x.link(0, 0, 1, 3, 0), false);
        due("34", x.link(0, 0, 1, -1, 0), false);
        due("34", x.link(0, 0, 1, 2, 10), false);
        due("34", x.link(0, 0, 1, 2, -1), false);
        due("34", x.link(0, 4, 1, 2, 0), false);
        due("34", x.link(6, 0, 1, 2, 0), false);
        due("37", x.look(1), 1);
        due("35: no ring", x.ring(0), NONE);
        due("35: no ring", x.ring(1), NONE);
        due("35: no ring", x.ring(10), NONE);
        due("34", x.link(1, 2, 0, 1, 0), true);
        due("35: goes out where it comes in", x.ring(0), NONE);
        due("34", x.link(1, 1, 0, 0, 0), true);
        due("35: so does the last one", x.ring(0), NONE);
        due("34", x.link(1, 0, 0, 3, 2), true);
        due("35: 9 and 2 and two carts", x.ring(0), 13);
        due("35", x.ring(1), 2);
        due("35", x.ring(10), 0);
        due("35", x.ring(11), 6);
        due("35", x.ring(12), NONE);
        due("35", x.ring(9), NONE);
        due("35", x.ring(2), NONE);
        due("35", x.ring(-1), NONE);
        due("35", x.ring(Integer.MIN_VALUE), NONE);
        due("35", x.ring(Integer.MAX_VALUE), NONE);
        due("34: another one", x.link(0, 0, 1, 2, 5), true);
        due("35", x.ring(0), 9);
        due("34: nowhere", x.link(0, 0, NONE, 99, 99), true);
        due("34: nowhere again", x.link(0, 0, NONE, 0, 0), true);
        due("34: no such road", x.link(0, 4, NONE, 0, 0), false);
        due("35", x.ring(0), NONE);
    }

    private static void rings() {
        FourPalms x = new FourPalms();
        // 2 to 3 to 4 to 2 with no room: 3; 0 to 1 to 0: 4; 5 to 0 and back: 4
        x.link(2, 1, 3, 0, 0);
        x.link(3, 3, 4, 0, 0);
        x.link(4, 1, 2, 2, 0);
        x.link(0, 0, 1, 0, 1);
        x.link(1, 1, 0, 1, 1);
        due("35: the fewest", x.ring(0), 3);
        due("35: not the shortest", x.ring(1), 3);
        due("35", x.ring(10), 13);
        due("35", x.ring(11), 21);
        due("35", x.ring(12), 25);
        x.link(4, 1, 2, 2, 1);
        due("35: of two the first", x.ring(10), 0);
        due("35", x.ring(1), 2);
        x.link(0, 0, 1, 0, 2);
        due("35: and no more", x.ring(10), 13);
        x.link(2, 0, 3, 0, 0);
        due("35: of two that begin alike the first", x.ring(10), 12);
        due("35", x.ring(11), 21);
        x.link(3, 2, 4, 0, 0);
        due("35", x.ring(11), 20);
        // a ring through one crossing twice: in at 0, out at 1, in at 1, out at 0
        FourPalms y = new FourPalms();
        y.link(0, 1, 1, 0, 0);
        y.link(1, 1, 0, 1, 0);
        due("35: out where it comes in", y.ring(0), NONE);
        y.link(0, 0, 2, 0, 0);
        y.link(2, 1, 0, 0, 0);
        due("35: 0 1 0 2", y.ring(0), 4);
        due("35", y.ring(1), 4);
        due("35", y.ring(10), 0);
        due("35", y.ring(11), 13);
        due("35", y.ring(12), 1);
        due("35", y.ring(13), 7);
        due("35", y.ring(14), NONE);
    }

    private static void images() {
        FourPalms x = new FourPalms();
        due("36: there is none", x.image(false), false);
        due("37", x.look(2), 0);
        x.crossing(0, 5);
        x.state(5);
        told(x, 0, RIGHT);
        x.cart(0, 1, 3, 0, 0, 0, 1);
        x.comer(0, 0, 2, 0, 0);
        x.link(0, 0, 1, 1, 1);
        x.road(0, 0, 4, 100);
        x.road(0, 0, 3, 1);
        x.cart(0, 0, 3, 0, 0, 0, 1);
        x.run(0, 3);
        int state = x.look(3);
        int row = x.days(0, 0, 4);
        due("36", x.image(true), true);
        due("37", x.look(2), 1);
        for (int i = 0; i < 2; i++) {
            x.run(0, 5);
            x.crossing(0, 3);
            x.state(9);
            told(x, 0, "go; go; go;");
            x.land(0, 3);
            x.cart(1, 0, 1, 0, 0, 0, 0);
            tape(x, "wait ?");
            x.rule(1);
            tape(x, "go;");
            due("36", x.image(false), true);
            due("36: the tape stays as it is", x.rule(3), 1);
            due("36: roads", x.road(0, 4, 0, 0), true);
            due("36: state", x.look(3), state);
            due("36: lines", x.look(0), 2);
            due("36: links", x.look(1), 1);
            due("36: carts", x.now(0, 3), 3);
            due("36: stays", x.of(0, 1, 5), 3);
            due("36: carts elsewhere", x.now(1, 3), 0);
            due("36: comers", x.ever(0, 0), 5);
            due("36: ticks", x.count(0, 0), 3);
            due("36: row", x.days(0, 0, 4), row);
            due("36: there still is one", x.look(2), 1);
            x.cart(0, 0, 2, 0, 0, 0, 0);
            x.cart(0, 1, 3, 0, 0, 0, 0);
            x.road(0, 0, 3, 0);
            due("36: rules and lands' rules", x.waits(0, 0, 1), 1);
        }
        tape(x, "wait ?");
        x.rule(1);
        x.image(false);
        due("36: fault() stays", x.fault(1), 5);
        x.land(0, 2);
        x.image(true);
        x.land(0, 0);
        x.image(false);
        x.cart(0, 0, 2, 0, 0, 0, 0);
        x.cart(0, 1, 3, 0, 0, 0, 0);
        x.road(0, 0, 3, 0);
        due("36: the one taken later", x.waits(0, 0, 1), 0);
    }

    private static void looks() {
        FourPalms x = new FourPalms();
        told(x, 0, "go;wait;");
        told(x, 1, "go;");
        told(x, 2, "go;go;go;");
        told(x, 3, "go;");
        due("37: lines", x.look(0), 7);
        told(x, 2, "");
        due("37: lines", x.look(0), 4);
        x.link(0, 0, 1, 0, 0);
        x.link(0, 1, 1, 0, 0);
        due("37: links", x.look(1), 2);
        x.state(-7);
        due("37: state", x.look(3), -7);
        due("37", x.look(4), NONE);
        due("37", x.look(-1), NONE);
    }

    public static void main(String[] args) {
        newAndState();
        crossings();
        roadsAndLands();
        fights();
        carts();
        tapes();
        rules();
        conditions();
        numbers();
        waiting();
        circles();
        tailOfCircle();
        circleOfSix();
        knots();
        meanings();
        clearing();
        judging();
        comers();
        evers();
        leastOfSeveral();
        orders();
        oddsAndCouples();
        usedAndHolds();
        starving();
        wordings();
        words();
        signsAndBorders();
        runs();
        crashes();
        drawing();
        links();
        rings();
        images();
        looks();
        close();
    }
}
