import java.util.Random;

/** Random runs of calls, each answered by the class and by the model: the answers must be alike. */
public final class ModelTest {
    private static final String[] RULES = {
        "wait when right = 1;",
        "wait when first = 1;",
        "wait when left = 1;",
        "wait when osize > size; go when size > osize; wait when first = 1;",
        "wait when sign > osign; go when osign > sign; wait when right = 1;",
        "wait when sign > osign; go when osign > sign; wait when first = 1;",
        "wait when turn = 2 and oturn < 2; go when oturn = 2 and turn < 2; wait when right = 1 or left = 1;",
        "wait when load * 3 - oload / 2 > 4 + slope; go when not (sort = osort or oslope = 1); wait when roads > 3;",
        "wait;",
        "go;",
        "",
        "wait when not not first = 0;",
        "go when first = 1; wait;",
        "wait when oload > load; go when load > oload; wait when first = 1;",
        "wait when oload > load and oload - load < 5 or load > oload + 4; go when not load = oload; wait when first = 1;",
        "wait when oload = load + 1 or load = 4 and oload = 1;",
        "wait when sign = 1 and osign = 1 and first = 1; wait when sign = osign and first = 1 and size > 0;",
    };
    private static final String[] ATOMS = ("right left size osize turn oturn load oload slope oslope sort osort sign "
        + "osign first roads").split(" ");
    private static final String[] JUNK = {"(", ")", ";", "not", "and", "or", "when", "wait", "go", "/ 0", "12345", "Wait",
        "x", "+", "-", "*", "/", "<", "=", ">", "?", "\t", "\n", "0000", "firsts", "righ", "\u00e9", ""};

    private static final java.util.TreeMap<String, java.util.TreeMap<Long, Integer>> SEEN = new java.util.TreeMap<>();

    private final Random random;
    private final int seed;
    private final FourPalms x = new FourPalms();
    private final Model m = new Model();
    private final StringBuilder log = new StringBuilder();
    private final int home;
    private int calls = 0;

    private ModelTest(int seed) {
        this.seed = seed;
        this.random = new Random(seed);
        this.home = random.nextInt(6);
    }

    public static void main(String[] args) {
        int runs = args.length > 0 ? Integer.parseInt(args[0]) : 600;
        int from = args.length > 1 ? Integer.parseInt(args[1]) : 0;
        long calls = 0;
        for (int seed = from; seed < from + runs; seed++) {
            ModelTest test = new ModelTest(seed);
            test.go();
            calls += test.calls;
        }
        SEEN.forEach((name, answers) -> System.out.println(name + " " + answers));
        System.out.println(runs + " runs, " + calls + " calls answered as by the model");
    }

    private void same(String call, long got, long want) {
        calls++;
        if (log.length() > 0) {
            log.append("; ");
        }
        log.append(call);
        if (System.getProperty("tell") != null) {
            int open = call.indexOf('(');
            int comma = call.lastIndexOf(' ');
            String name = call.startsWith("rule") ? "rule" : call.substring(0, open)
                + ("now ever count ring days".contains(call.substring(0, open)) ? call.substring(comma + 1) : "");
            SEEN.computeIfAbsent(name, k -> new java.util.TreeMap<>()).merge(want, 1, Integer::sum);
        }
        if (got != want) {
            System.out.println("seed " + seed + ": " + log);
            System.out.println(call + " answered " + got + ", the model " + want);
            System.exit(1);
        }
    }

    private void same(String call, boolean got, boolean want) {
        same(call, got ? 1 : 0, want ? 1 : 0);
    }

    /** A number of 0 .. most, now and then another one. */
    private int about(int most) {
        int dice = random.nextInt(40);
        if (dice == 0) {
            return -1 - random.nextInt(3);
        }
        if (dice == 1) {
            return most + 1 + random.nextInt(2);
        }
        if (dice == 2) {
            int[] far = {Integer.MIN_VALUE, Integer.MAX_VALUE, -100, 1000};
            return far[random.nextInt(far.length)];
        }
        return random.nextInt(most + 1);
    }

    /** One crossing is looked at most of the time, so that much happens there. */
    private int c() {
        return random.nextInt(4) > 0 ? home : about(5);
    }

    private int road(int c) {
        return about(c < 0 || c > 5 ? 3 : m.w.crossings[c].n - 1);
    }

    private void go() {
        begin();
        while (calls < 512) {
            step(random.nextInt(40));
        }
    }

    private void begin() {
        int v = random.nextInt();
        same("state(" + v + ")", x.state(v), m.state(v));
        for (int k = 0; k < 4; k++) {
            tell(k, RULES[random.nextInt(RULES.length)]);
        }
        for (int c = 0; c < 6; c++) {
            int n = 3 + random.nextInt(4);
            same("crossing(" + c + ", " + n + ")", x.crossing(c, n), m.crossing(c, n));
            int comers = random.nextInt(c == home ? 15 : 6);
            for (int i = 0; i < comers; i++) {
                comer(c, random.nextInt(n), random.nextInt(n), random.nextInt(4), random.nextInt(10));
            }
            for (int i = 0; i < 6; i++) {
                road(c, random.nextInt(n), random.nextInt(4), random.nextInt(i < 3 ? 2 : 4));
                road(c, random.nextInt(n), 4, random.nextInt(101));
            }
            int carts = c == home ? random.nextInt(6) : 0;
            for (int i = 0; i < carts; i++) {
                cart(c, random.nextInt(n), random.nextInt(n));
            }
        }
        int links = random.nextInt(25);
        for (int i = 0; i < links; i++) {
            link();
        }
    }

    private void comer(int c, int road, int to, int sort, int load) {
        same("comer(" + c + ", " + road + ", " + to + ", " + sort + ", " + load + ")",
            x.comer(c, road, to, sort, load), m.comer(c, road, to, sort, load));
    }

    private void road(int c, int road, int what, int v) {
        same("road(" + c + ", " + road + ", " + what + ", " + v + ")",
            x.road(c, road, what, v), m.road(c, road, what, v));
    }

    private void tell(int k, String text) {
        int at = 0;
        while (at < text.length()) {
            int[] word = new int[5];
            for (int i = 0; i < 20; i++) {
                int sign = at + i < text.length() ? text.charAt(at + i) : 32;
                word[i / 4] = word[i / 4] << 8 | sign & 255;
            }
            same("feed(" + word[0] + ", " + word[1] + ", " + word[2] + ", " + word[3] + ", " + word[4] + ")",
                x.feed(word[0], word[1], word[2], word[3], word[4]),
                m.feed(word[0], word[1], word[2], word[3], word[4]));
            at += 20;
        }
        same("end(" + text.length() + ")", x.end(text.length()), m.end(text.length()));
        same("rule(" + k + ") of " + text, x.rule(k), m.rule(k));
        same("fault(0)", x.fault(0), m.fault(0));
        same("fault(1)", x.fault(1), m.fault(1));
    }

    private String sum(int depth) {
        StringBuilder s = new StringBuilder(operand());
        while (random.nextInt(3) == 0) {
            int sign = random.nextInt(4);
            s.append(" +-*/".charAt(sign + 1)).append(random.nextBoolean() ? " " : "");
            s.append(sign == 3 ? Integer.toString(random.nextInt(9) + (random.nextInt(9) == 0 ? 0 : 1)) : operand());
        }
        return s.toString();
    }

    private String operand() {
        return random.nextInt(3) > 0 ? ATOMS[random.nextInt(ATOMS.length)]
            : Integer.toString(random.nextInt(random.nextInt(9) == 0 ? 10000 : 10));
    }

    private String condition(int depth) {
        int dice = random.nextInt(depth > 0 ? 8 : 5);
        switch (dice) {
            case 5:
                return "not " + condition(depth - 1);
            case 6:
                return "(" + joined(depth - 1) + ")";
            case 7:
                return "not(" + joined(depth - 1) + ")";
            default:
                return sum(depth) + "<=>".charAt(random.nextInt(3)) + sum(depth);
        }
    }

    private String joined(int depth) {
        StringBuilder s = new StringBuilder(condition(depth));
        while (random.nextInt(3) == 0) {
            s.append(random.nextBoolean() ? " and " : "\nor ").append(condition(depth));
        }
        return s.toString();
    }

    private String text() {
        StringBuilder s = new StringBuilder();
        int lines = random.nextInt(20) == 0 ? 15 + random.nextInt(4) : 1 + random.nextInt(4);
        for (int i = 0; i < lines; i++) {
            s.append(random.nextBoolean() ? "wait" : "go");
            if (random.nextInt(4) > 0 && lines < 10) {
                s.append(" when ").append(joined(random.nextInt(20) == 0 ? 10 : 2));
            }
            s.append(random.nextBoolean() ? ";" : " ; ");
        }
        if (random.nextInt(3) == 0) {
            for (int i = 0; i < 1 + random.nextInt(2); i++) {
                int at = random.nextInt(s.length() + 1);
                if (random.nextBoolean() && s.length() > 0) {
                    s.delete(at, Math.min(s.length(), at + 1 + random.nextInt(4)));
                }
                s.insert(Math.min(at, s.length()), JUNK[random.nextInt(JUNK.length)]);
            }
        }
        if (s.length() > 400) {
            s.setLength(400);
        }
        return s.toString();
    }

    private long states(int c) {
        if (c < 0 || c > 5) {
            return 0;
        }
        Model.Crossing k = m.w.crossings[c];
        long many = k.n == 3 ? 6 : k.n == 4 ? 24 : k.n;
        for (Model.Road r : k.roads) {
            many *= r.comers.size() + 1;
        }
        return many;
    }

    private void step(int dice) {
        int c = c();
        int r = road(c);
        int t = random.nextInt(12) == 0 ? -1 : road(c);
        switch (dice) {
            case 0:
                if (random.nextInt(20) == 0) {
                    int v = random.nextInt();
                    same("state(" + v + ")", x.state(v), m.state(v));
                }
                break;
            case 1:
                if (random.nextInt(12) == 0) {
                    int n = random.nextInt(8) == 0 ? about(8) : 3 + random.nextInt(4);
                    same("crossing(" + c + ", " + n + ")", x.crossing(c, n), m.crossing(c, n));
                }
                break;
            case 2:
            case 3:
                int what = about(4);
                road(c, r, what, about(what == 0 ? 3 : what == 2 ? 2 : what == 4 ? 100 : 1));
                break;
            case 4:
                int k = about(1);
                int rule = about(3);
                same("land(" + k + ", " + rule + ")", x.land(k, rule), m.land(k, rule));
                break;
            case 5:
                fight(c, r, road(c), random.nextInt(4) == 0 ? -1 : road(c), road(c));
                break;
            case 6:
            case 7:
            case 8:
            case 9:
            case 10:
                cart(c, r, t);
                break;
            case 11:
                int fact = about(5);
                same("of(" + c + ", " + r + ", " + fact + ")", x.of(c, r, fact), m.of(c, r, fact));
                break;
            case 12:
                if (random.nextInt(3) == 0) {
                    tell(random.nextInt(4), random.nextInt(3) == 0 ? RULES[random.nextInt(RULES.length)] : text());
                }
                break;
            case 13:
                tapes();
                break;
            case 14:
                int which = about(1);
                if (states(c) < 3000) {
                    same("lay(" + c + ", " + which + ")", x.lay(c, which), m.lay(c, which));
                    carts(c);
                }
                break;
            case 15:
            case 16:
                comer(c, r, t, about(3), about(9));
                break;
            case 17:
            case 18:
                link();
                break;
            case 19:
                boolean taken = random.nextInt(3) == 0;
                if (random.nextInt(4) == 0) {
                    same("image(" + taken + ")", x.image(taken), m.image(taken));
                }
                break;
            case 20:
            case 21:
                int ticks = random.nextInt(10) == 0 ? about(60) : about(12);
                same("run(" + c + ", " + ticks + ")", x.run(c, ticks), m.run(c, ticks));
                counts(c);
                break;
            case 22:
                int set = about(c < 0 || c > 5 ? 15 : (1 << m.w.crossings[c].n) - 1);
                int go = random.nextBoolean() && c >= 0 && c < 6 ? m.now(c, 0) : set;
                same("judge(" + c + ", " + go + ")", x.judge(c, go), m.judge(c, go));
                carts(c);
                break;
            default:
                ask(dice, c, r, t);
        }
    }

    private void ask(int dice, int c, int r, int t) {
        switch (dice) {
            case 23:
            case 24:
                same("waits(" + c + ", " + r + ", " + t + ")", x.waits(c, r, t), m.waits(c, r, t));
                break;
            case 25:
                int now = about(3);
                same("now(" + c + ", " + now + ")", x.now(c, now), m.now(c, now));
                break;
            case 26:
            case 27:
                for (int i : new int[] {0, 10, 11, 12, 13, 14, 15, 16, about(20)}) {
                    if (i > 11 && m.circle(c, 0) == 0) {
                        break;
                    }
                    same("circle(" + c + ", " + i + ")", x.circle(c, i), m.circle(c, i));
                }
                break;
            case 28:
                int how = about(3);
                same("meant(" + c + ", " + how + ")", x.meant(c, how), m.meant(c, how));
                break;
            case 29:
                int part = about(2);
                same("cleared(" + c + ", " + part + ")", x.cleared(c, part), m.cleared(c, part));
                break;
            case 30:
                if (states(c) < 5000) {
                    int what = about(4);
                    same("ever(" + c + ", " + what + ")", x.ever(c, what), m.ever(c, what));
                }
                break;
            case 31:
                if (states(c) < 3000) {
                    same("odds(" + c + ", " + r + ")", x.odds(c, r), m.odds(c, r));
                    same("mutual(" + c + ")", x.mutual(c), m.mutual(c));
                }
                break;
            case 32:
                int rule = about(3);
                if (states(c) < 2000) {
                    same("used(" + rule + ", " + c + ")", x.used(rule, c), m.used(rule, c));
                }
                break;
            case 33:
                int all = about(3);
                if (random.nextInt(6) == 0) {
                    same("holds(" + all + ")", x.holds(all), m.holds(all));
                }
                break;
            case 34:
                same("starve(" + c + ")", x.starve(c), m.starve(c));
                break;
            case 35:
                wordings();
                break;
            case 36:
                if (states(c) < 800 && random.nextInt(2) == 0) {
                    same("signs(" + c + ")", x.signs(c), m.signs(c));
                }
                break;
            case 37:
                int what = about(1);
                if (states(c) < 800 && random.nextInt(2) == 0) {
                    same("border(" + c + ", " + what + ")", x.border(c, what), m.border(c, what));
                }
                break;
            case 38:
                for (int i : new int[] {0, 1, 10, 11, 12, 13, 14, about(16)}) {
                    if (i > 11 && m.ring(0) == -1) {
                        break;
                    }
                    same("ring(" + i + ")", x.ring(i), m.ring(i));
                }
                break;
            default:
                int look = about(3);
                same("look(" + look + ")", x.look(look), m.look(look));
        }
    }

    private void fight(int c, int a, int b, int p, int q) {
        same("fight(" + c + ", " + a + ", " + b + ", " + p + ", " + q + ")", x.fight(c, a, b, p, q),
            m.fight(c, a, b, p, q));
    }

    private void cart(int c, int r, int t) {
        int sort = about(3);
        int load = about(9);
        int rank = random.nextBoolean() ? about(99) : random.nextInt(6);
        int habit = random.nextInt(3) == 0 ? about(2) : 0;
        same("cart(" + c + ", " + r + ", " + t + ", " + sort + ", " + load + ", " + rank + ", " + habit + ")",
            x.cart(c, r, t, sort, load, rank, habit), m.cart(c, r, t, sort, load, rank, habit));
    }

    private void tapes() {
        int v = random.nextInt();
        if (random.nextBoolean()) {
            same("feed(" + v + ", 1, 2, 3, -1)", x.feed(v, 1, 2, 3, -1), m.feed(v, 1, 2, 3, -1));
        } else if (random.nextBoolean()) {
            int n = about(400);
            same("end(" + n + ")", x.end(n), m.end(n));
        } else if (random.nextInt(4) == 0) {
            int k = about(3);
            same("rule(" + k + ")", x.rule(k), m.rule(k));
            int what = about(1);
            same("fault(" + what + ")", x.fault(what), m.fault(what));
        }
    }

    private void link() {
        int c = about(5);
        int r = road(c);
        int to = random.nextInt(8) == 0 ? -1 : about(5);
        int in = road(to);
        int room = about(random.nextBoolean() ? 9 : 1);
        same("link(" + c + ", " + r + ", " + to + ", " + in + ", " + room + ")", x.link(c, r, to, in, room),
            m.link(c, r, to, in, room));
    }

    private void carts(int c) {
        if (c < 0 || c > 5 || random.nextInt(4) > 0) {
            return;
        }
        for (int r = 0; r < m.w.crossings[c].n; r++) {
            for (int what = 0; what < 6; what++) {
                same("of(" + c + ", " + r + ", " + what + ")", x.of(c, r, what), m.of(c, r, what));
            }
        }
    }

    private void counts(int c) {
        for (int what = 0; what < 5; what++) {
            same("count(" + c + ", " + what + ")", x.count(c, what), m.count(c, what));
        }
        int r = road(c);
        for (int what = 0; what < 6; what++) {
            same("days(" + c + ", " + r + ", " + what + ")", x.days(c, r, what), m.days(c, r, what));
        }
        same("look(3)", x.look(3), m.look(3));
        carts(c);
    }

    private void wordings() {
        int set = random.nextInt(3) == 0 ? about(63) : 1 << random.nextInt(6);
        long states = 0;
        for (int c = 0; c < 6; c++) {
            states += (set >> c & 1) == 1 ? states(c) : 0;
        }
        if (states < 3000) {
            int wording = random.nextInt(30) == 0 ? about(288) : random.nextInt(288) + 1;
            same("sound(" + set + ", " + wording + ")", x.sound(set, wording), m.sound(set, wording));
        }
        if (states < 500 && random.nextInt(3) == 0) {
            int what = about(2);
            same("shortest(" + set + ", " + what + ")", x.shortest(set, what), m.shortest(set, what));
        }
    }
}
