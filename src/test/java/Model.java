import java.util.ArrayList;
import java.util.Arrays;
import java.util.List;
import java.util.function.BiPredicate;
import java.util.function.Function;

/**
 * The document read word by word, as slowly as need be: each state that can come is put down and looked at,
 * each ring is walked. The class is held against it.
 */
final class Model {
    static final int NONE = -1;

    static final class Cart {
        int road, to, sort, load, rank, habit, stay;
    }

    static final class Comer {
        int to, sort, load;
    }

    static final class Road {
        int size, slope, sign, land, chance;
        Cart cart;
        List<Comer> comers = new ArrayList<>();
        List<Comer> row = new ArrayList<>();
        int gone, wait, longest;
        int to = NONE, in, room;
    }

    static final class Crossing {
        int n;
        Road[] roads;
        int ticks, crashes, stood;

        Crossing(int n) {
            this.n = n;
            roads = new Road[n];
            for (int r = 0; r < n; r++) {
                roads[r] = new Road();
            }
        }
    }

    /** What a condition asks of x and y at a crossing. */
    interface Asked {
        int value(String word);
    }

    static final class Line {
        boolean wait;
        Function<Asked, Boolean> when;
    }

    static final class World {
        int state;
        int[] lands = {0, 1};
        List<List<Line>> rules = new ArrayList<>();
        Crossing[] crossings = new Crossing[6];
    }

    World w = new World();
    World kept;
    byte[] tape = new byte[0];
    int fault, place = NONE;

    Model() {
        for (int i = 0; i < 4; i++) {
            w.rules.add(new ArrayList<>());
        }
        for (int c = 0; c < 6; c++) {
            w.crossings[c] = new Crossing(4);
        }
    }

    // ---- copies ----

    static Cart copy(Cart a) {
        if (a == null) {
            return null;
        }
        Cart b = new Cart();
        b.road = a.road;
        b.to = a.to;
        b.sort = a.sort;
        b.load = a.load;
        b.rank = a.rank;
        b.habit = a.habit;
        b.stay = a.stay;
        return b;
    }

    static Crossing copy(Crossing a) {
        Crossing b = new Crossing(a.n);
        b.ticks = a.ticks;
        b.crashes = a.crashes;
        b.stood = a.stood;
        for (int r = 0; r < a.n; r++) {
            Road p = a.roads[r];
            Road q = b.roads[r];
            q.size = p.size;
            q.slope = p.slope;
            q.sign = p.sign;
            q.land = p.land;
            q.chance = p.chance;
            q.cart = copy(p.cart);
            q.comers = new ArrayList<>(p.comers);
            q.row = new ArrayList<>(p.row);
            q.gone = p.gone;
            q.wait = p.wait;
            q.longest = p.longest;
            q.to = p.to;
            q.in = p.in;
            q.room = p.room;
        }
        return b;
    }

    static World copy(World a) {
        World b = new World();
        b.state = a.state;
        b.lands = a.lands.clone();
        b.rules = new ArrayList<>(a.rules);
        for (int c = 0; c < 6; c++) {
            b.crossings[c] = copy(a.crossings[c]);
        }
        return b;
    }

    // ---- rules ----

    static final class Bad extends RuntimeException {
        private static final long serialVersionUID = 1L;
        final int fault, place;

        Bad(int fault, int place) {
            this.fault = fault;
            this.place = place;
        }
    }

    /** A reader by descent, as the grammar is told. */
    final class Parser {
        final String text;
        int at, place;
        String token;
        int open;
        final List<Line> lines = new ArrayList<>();

        Parser(String text) {
            this.text = text;
            next();
        }

        void next() {
            while (at < text.length() && (text.charAt(at) == ' ' || text.charAt(at) == '\n')) {
                at++;
            }
            place = at;
            if (at == text.length()) {
                token = "";
                return;
            }
            int from = at;
            if (letter(text.charAt(at))) {
                while (at < text.length() && letter(text.charAt(at))) {
                    at++;
                }
            } else if (digit(text.charAt(at))) {
                while (at < text.length() && digit(text.charAt(at))) {
                    at++;
                }
            } else {
                at++;
            }
            token = text.substring(from, at);
        }

        boolean letter(char c) {
            return "abcdefghijklmnopqrstuvwxyzABCDEFGHIJKLMNOPQRSTUVWXYZ".indexOf(c) >= 0;
        }

        boolean digit(char c) {
            return "0123456789".indexOf(c) >= 0;
        }

        void must(String t) {
            if (!token.equals(t)) {
                throw new Bad(1, place);
            }
            next();
        }

        List<Line> text() {
            while (!token.isEmpty()) {
                if (!token.equals("wait") && !token.equals("go")) {
                    throw new Bad(1, place);
                }
                if (lines.size() == 16) {
                    throw new Bad(3, place);
                }
                Line line = new Line();
                line.wait = token.equals("wait");
                next();
                if (token.equals("when")) {
                    next();
                    line.when = b();
                }
                must(";");
                lines.add(line);
            }
            return lines;
        }

        Function<Asked, Boolean> b() {
            Function<Asked, Boolean> l = a();
            while (token.equals("or")) {
                next();
                Function<Asked, Boolean> p = l;
                Function<Asked, Boolean> q = a();
                l = z -> p.apply(z) || q.apply(z);
            }
            return l;
        }

        Function<Asked, Boolean> a() {
            Function<Asked, Boolean> l = c();
            while (token.equals("and")) {
                next();
                Function<Asked, Boolean> p = l;
                Function<Asked, Boolean> q = c();
                l = z -> p.apply(z) && q.apply(z);
            }
            return l;
        }

        void opens() {
            if (open == 8) {
                throw new Bad(3, place);
            }
            open++;
            next();
        }

        Function<Asked, Boolean> c() {
            if (token.equals("not")) {
                opens();
                Function<Asked, Boolean> p = c();
                open--;
                return z -> !p.apply(z);
            }
            if (token.equals("(")) {
                opens();
                Function<Asked, Boolean> p = b();
                must(")");
                open--;
                return p;
            }
            Function<Asked, Integer> l = e();
            String sign = token;
            if (!Arrays.asList("<", "=", ">").contains(sign)) {
                throw new Bad(1, place);
            }
            next();
            Function<Asked, Integer> r = e();
            return z -> {
                int p = l.apply(z);
                int q = r.apply(z);
                return sign.equals("<") ? p < q : sign.equals("=") ? p == q : p > q;
            };
        }

        Function<Asked, Integer> e() {
            Function<Asked, Integer> l = t();
            while (token.equals("+") || token.equals("-")) {
                boolean plus = token.equals("+");
                next();
                Function<Asked, Integer> p = l;
                Function<Asked, Integer> q = t();
                l = z -> plus ? p.apply(z) + q.apply(z) : p.apply(z) - q.apply(z);
            }
            return l;
        }

        Function<Asked, Integer> t() {
            Function<Asked, Integer> l = u();
            while (token.equals("*") || token.equals("/")) {
                boolean times = token.equals("*");
                next();
                Function<Asked, Integer> p = l;
                if (times) {
                    Function<Asked, Integer> q = u();
                    l = z -> p.apply(z) * q.apply(z);
                } else {
                    int d = number();
                    if (d == 0) {
                        throw new Bad(2, place);
                    }
                    next();
                    l = z -> p.apply(z) / d;
                }
            }
            return l;
        }

        int number() {
            if (token.isEmpty() || token.length() > 4 || !digit(token.charAt(0))) {
                throw new Bad(1, place);
            }
            return Integer.parseInt(token);
        }

        Function<Asked, Integer> u() {
            if (Arrays.asList("right left size osize turn oturn load oload slope oslope sort osort sign osign first roads"
                .split(" ")).contains(token)) {
                String word = token;
                next();
                return z -> z.value(word);
            }
            int v = number();
            next();
            return z -> v;
        }
    }

    int rule(int k) {
        byte[] was = tape;
        tape = new byte[0];
        fault = 0;
        place = NONE;
        if (k < 0 || k > 3) {
            return NONE;
        }
        StringBuilder s = new StringBuilder();
        for (byte b : was) {
            s.append((char) (b & 255));
        }
        try {
            w.rules.set(k, new Parser(s.toString()).text());
            return w.rules.get(k).size();
        } catch (Bad bad) {
            fault = bad.fault;
            place = bad.place;
            return NONE;
        }
    }

    // ---- who waits for whom ----

    static int turn(int n, int a, int b) {
        int d = Math.floorMod(b - a, n);
        return d == 1 ? 1 : d == n - 1 ? 2 : 0;
    }

    static boolean fights(int n, int a, int b, int x, int y) {
        if (a == x) {
            return false;
        }
        if (b == y) {
            return true;
        }
        int p = Math.min(2 * a + 1, 2 * b);
        int q = Math.max(2 * a + 1, 2 * b);
        int inside = 0;
        for (int point = p + 1; point < q; point++) {
            if (point == 2 * x + 1) {
                inside++;
            }
            if (point == 2 * y) {
                inside++;
            }
        }
        return inside == 1;
    }

    static boolean first(Cart x, Cart y, int how) {
        switch (how) {
            case 0: return y.rank < x.rank;
            case 1: return y.stay > x.stay;
            case 2: return false;
            default: return y.rank <= x.rank;
        }
    }

    static Asked asked(Crossing k, Cart x, Cart y, int how) {
        return word -> {
            Road p = k.roads[x.road];
            Road q = k.roads[y.road];
            switch (word) {
                case "right": return y.road == (x.road + 1) % k.n ? 1 : 0;
                case "left": return x.road == (y.road + 1) % k.n ? 1 : 0;
                case "size": return p.size;
                case "osize": return q.size;
                case "turn": return turn(k.n, x.road, x.to);
                case "oturn": return turn(k.n, y.road, y.to);
                case "load": return x.load;
                case "oload": return y.load;
                case "slope": return p.slope;
                case "oslope": return q.slope;
                case "sort": return x.sort;
                case "osort": return y.sort;
                case "sign": return p.sign;
                case "osign": return q.sign;
                case "first": return first(x, y, how) ? 1 : 0;
                case "roads": return k.n;
                default: throw new IllegalStateException(word);
            }
        };
    }

    static int firstLine(List<Line> rule, Asked asked) {
        for (int i = 0; i < rule.size(); i++) {
            if (rule.get(i).when == null || rule.get(i).when.apply(asked)) {
                return i;
            }
        }
        return NONE;
    }

    static boolean says(List<Line> rule, Asked asked) {
        int line = firstLine(rule, asked);
        return line != NONE && rule.get(line).wait;
    }

    /** By what x, if its way fights with that of y and it does know, waits for y. */
    interface By extends BiPredicate<Cart, Cart> {
    }

    By byLands(Crossing k, int how) {
        return (x, y) -> says(w.rules.get(w.lands[k.roads[x.road].land]), asked(k, x, y, how));
    }

    By byRule(Crossing k, int rule) {
        return (x, y) -> says(w.rules.get(rule), asked(k, x, y, 0));
    }

    static boolean wordSo(int word, Asked z) {
        switch (word) {
            case 0: return z.value("right") == 1;
            case 1: return z.value("left") == 1;
            case 2: return z.value("first") == 1;
            case 3: return z.value("osize") > z.value("size");
            case 4: return z.value("oturn") == 0 && z.value("turn") != 0;
            case 5: return z.value("turn") == 2 && z.value("oturn") != 2;
            case 6: return z.value("oload") > z.value("load");
            default: return z.value("osign") == 0 && z.value("sign") != 0;
        }
    }

    static By byWording(Crossing k, int wording) {
        int[] parts = wording <= 16 ? new int[] {wording} : new int[] {wording / 17, wording % 17};
        return (x, y) -> {
            for (int part : parts) {
                if (wordSo((part - 1) % 8, asked(k, x, y, 0))) {
                    return part - 1 < 8;
                }
            }
            return false;
        };
    }

    static boolean cartsFight(Crossing k, Cart x, Cart y) {
        return fights(k.n, x.road, x.to, y.road, y.to);
    }

    static boolean waits(Crossing k, Cart x, Cart y, By by) {
        return cartsFight(k, x, y) && (x.habit == 1 || x.habit == 0 && by.test(x, y));
    }

    static List<Cart> carts(Crossing k) {
        List<Cart> all = new ArrayList<>();
        for (Road r : k.roads) {
            if (r.cart != null) {
                all.add(r.cart);
            }
        }
        return all;
    }

    static List<Cart> goers(Crossing k, List<Cart> there, By by) {
        List<Cart> go = new ArrayList<>();
        for (Cart x : there) {
            boolean may = true;
            for (Cart y : there) {
                may &= x == y || !waits(k, x, y, by);
            }
            if (may) {
                go.add(x);
            }
        }
        return go;
    }

    static boolean twoFight(Crossing k, List<Cart> some) {
        for (Cart x : some) {
            for (Cart y : some) {
                if (cartsFight(k, x, y)) {
                    return true;
                }
            }
        }
        return false;
    }

    static int set(List<Cart> some) {
        int s = 0;
        for (Cart x : some) {
            s |= 1 << x.road;
        }
        return s;
    }

    // ---- all that can come ----

    static List<int[]> orders(int n) {
        List<int[]> all = new ArrayList<>();
        if (n > 4) {
            for (int r = 0; r < n; r++) {
                int[] o = new int[n];
                for (int i = 0; i < n; i++) {
                    o[i] = (r + i) % n;
                }
                all.add(o);
            }
            return all;
        }
        grow(all, new int[0], n);
        return all;
    }

    static void grow(List<int[]> all, int[] begun, int n) {
        if (begun.length == n) {
            all.add(begun);
            return;
        }
        for (int r = 0; r < n; r++) {
            boolean has = false;
            for (int b : begun) {
                has |= b == r;
            }
            if (!has) {
                int[] more = Arrays.copyOf(begun, begun.length + 1);
                more[begun.length] = r;
                grow(all, more, n);
            }
        }
    }

    /** Each state with its carts, in the order of their numbers. */
    static List<List<Cart>> allThatCanCome(Crossing k) {
        List<List<Cart>> all = new ArrayList<>();
        int numbers = 1;
        for (Road r : k.roads) {
            numbers *= r.comers.size() + 1;
        }
        for (int number = 0; number < numbers; number++) {
            int rest = number;
            int[] digit = new int[k.n];
            for (int r = k.n - 1; r >= 0; r--) {
                int base = k.roads[r].comers.size() + 1;
                digit[r] = rest % base;
                rest /= base;
            }
            for (int[] order : orders(k.n)) {
                List<Cart> there = new ArrayList<>();
                for (int r = 0; r < k.n; r++) {
                    if (digit[r] > 0) {
                        there.add(cart(r, k.roads[r].comers.get(digit[r] - 1), place(order, r)));
                    }
                }
                all.add(there);
            }
        }
        return all;
    }

    static int place(int[] order, int road) {
        for (int i = 0; i < order.length; i++) {
            if (order[i] == road) {
                return i;
            }
        }
        throw new IllegalStateException();
    }

    static Cart cart(int road, Comer comer, int rank) {
        Cart x = new Cart();
        x.road = road;
        x.to = comer.to;
        x.sort = comer.sort;
        x.load = comer.load;
        x.rank = rank;
        return x;
    }

    static boolean stuck(Crossing k, List<Cart> there, By by) {
        return !there.isEmpty() && goers(k, there, by).isEmpty();
    }

    static boolean both(Crossing k, List<Cart> there, By by) {
        return twoFight(k, goers(k, there, by));
    }

    static boolean holds(Crossing k, List<List<Cart>> all, By by) {
        for (List<Cart> there : all) {
            if (stuck(k, there, by) || both(k, there, by)) {
                return false;
            }
        }
        return true;
    }

    List<Cart> least(Crossing k, boolean wantStuck) {
        By by = byLands(k, 0);
        List<Cart> least = null;
        for (List<Cart> there : allThatCanCome(k)) {
            if (wantStuck ? stuck(k, there, by) : both(k, there, by)) {
                if (least == null || there.size() < least.size()) {
                    least = there;
                }
            }
        }
        return least;
    }

    // ---- the face ----

    Crossing at(int c) {
        return c < 0 || c > 5 ? null : w.crossings[c];
    }

    static boolean no(Crossing k, int road) {
        return k == null || road < 0 || road >= k.n;
    }

    static boolean out(int v, int most) {
        return v < 0 || v > most;
    }

    int state(int v) {
        int was = w.state;
        w.state = v;
        return was;
    }

    boolean crossing(int c, int n) {
        if (at(c) == null || n < 3 || n > 6) {
            return false;
        }
        w.crossings[c] = new Crossing(n);
        for (Crossing k : w.crossings) {
            for (Road r : k.roads) {
                if (r.to == c) {
                    r.to = NONE;
                }
            }
        }
        return true;
    }

    boolean road(int c, int road, int what, int v) {
        Crossing k = at(c);
        if (no(k, road) || v < 0) {
            return false;
        }
        Road r = k.roads[road];
        switch (what) {
            case 0:
                if (v > 3) {
                    return false;
                }
                r.size = v;
                return true;
            case 1:
                if (v > 1) {
                    return false;
                }
                r.slope = v;
                return true;
            case 2:
                if (v > 2) {
                    return false;
                }
                r.sign = v;
                return true;
            case 3:
                if (v > 1) {
                    return false;
                }
                r.land = v;
                return true;
            case 4:
                if (v > 100) {
                    return false;
                }
                r.chance = v;
                return true;
            default:
                return false;
        }
    }

    boolean land(int k, int rule) {
        if (out(k, 1) || out(rule, 3)) {
            return false;
        }
        w.lands[k] = rule;
        return true;
    }

    int fight(int c, int a, int b, int x, int y) {
        Crossing k = at(c);
        if (no(k, a) || no(k, b) || a == b) {
            return NONE;
        }
        if (x == NONE) {
            return turn(k.n, a, b);
        }
        if (no(k, x) || no(k, y) || x == y || a == x) {
            return NONE;
        }
        return fights(k.n, a, b, x, y) ? 1 : 0;
    }

    boolean cart(int c, int road, int to, int sort, int load, int rank, int habit) {
        Crossing k = at(c);
        if (no(k, road)) {
            return false;
        }
        if (to == NONE) {
            k.roads[road].cart = null;
            return true;
        }
        if (no(k, to) || to == road || out(sort, 3) || out(load, 9) || out(rank, 99) || out(habit, 2)) {
            return false;
        }
        Cart x = new Cart();
        x.road = road;
        x.to = to;
        x.sort = sort;
        x.load = load;
        x.rank = rank;
        x.habit = habit;
        k.roads[road].cart = x;
        return true;
    }

    int of(int c, int road, int what) {
        Crossing k = at(c);
        if (no(k, road) || out(what, 5)) {
            return -2;
        }
        Cart x = k.roads[road].cart;
        if (x == null) {
            return NONE;
        }
        return new int[] {x.to, x.sort, x.load, x.rank, x.habit, x.stay}[what];
    }

    int feed(int a, int b, int c, int d, int e) {
        if (tape.length + 20 > 400) {
            return NONE;
        }
        int at = tape.length;
        tape = Arrays.copyOf(tape, at + 20);
        for (int v : new int[] {a, b, c, d, e}) {
            tape[at++] = (byte) (v >> 24);
            tape[at++] = (byte) (v >> 16);
            tape[at++] = (byte) (v >> 8);
            tape[at++] = (byte) v;
        }
        return tape.length;
    }

    boolean end(int n) {
        if (n < 0 || n > tape.length) {
            return false;
        }
        tape = Arrays.copyOf(tape, n);
        return true;
    }

    int fault(int what) {
        return what == 0 ? fault : what == 1 ? place : NONE;
    }

    int waits(int c, int road, int other) {
        Crossing k = at(c);
        if (no(k, road) || no(k, other) || road == other) {
            return NONE;
        }
        Cart x = k.roads[road].cart;
        Cart y = k.roads[other].cart;
        return x == null || y == null ? NONE : waits(k, x, y, byLands(k, 0)) ? 1 : 0;
    }

    int now(int c, int what) {
        Crossing k = at(c);
        if (k == null) {
            return NONE;
        }
        List<Cart> there = carts(k);
        switch (what) {
            case 0: return set(goers(k, there, byLands(k, 0)));
            case 1: return stuck(k, there, byLands(k, 0)) ? 1 : 0;
            case 2: return both(k, there, byLands(k, 0)) ? 1 : 0;
            case 3: return set(there);
            default: return NONE;
        }
    }

    int circle(int c, int what) {
        Crossing k = at(c);
        if (k == null) {
            return NONE;
        }
        List<Cart> there = carts(k);
        List<Cart> go = goers(k, there, byLands(k, 0));
        List<Cart> walk = new ArrayList<>();
        Cart x = null;
        for (Cart y : there) {
            if (!go.contains(y)) {
                x = y;
                break;
            }
        }
        List<Cart> circle = new ArrayList<>();
        while (x != null) {
            if (go.contains(x)) {
                break;
            }
            if (walk.contains(x)) {
                circle = walk.subList(walk.indexOf(x), walk.size());
                break;
            }
            walk.add(x);
            Cart on = null;
            for (Cart y : there) {
                if (on == null && waits(k, x, y, byLands(k, 0))) {
                    on = y;
                }
            }
            x = on;
        }
        if (what == 0) {
            return circle.size();
        }
        long i = (long) what - 10;
        return i >= 0 && i < circle.size() ? circle.get((int) i).road : NONE;
    }

    int meant(int c, int how) {
        Crossing k = at(c);
        return k == null || out(how, 3) ? NONE : set(goers(k, carts(k), byLands(k, how)));
    }

    int cleared(int c, int what) {
        Crossing k = at(c);
        if (k == null || out(what, 2)) {
            return NONE;
        }
        List<Cart> there = carts(k);
        int times = 0;
        int fights = 0;
        while (true) {
            List<Cart> go = goers(k, there, byLands(k, 0));
            if (go.isEmpty()) {
                break;
            }
            times++;
            fights += twoFight(k, go) ? 1 : 0;
            there.removeAll(go);
        }
        return what == 0 ? times : what == 1 ? there.size() : fights;
    }

    int judge(int c, int set) {
        Crossing k = at(c);
        if (k == null || set < 1 || set >= 1 << k.n) {
            return -2;
        }
        int go = set(goers(k, carts(k), byLands(k, 0)));
        for (int r = 0; r < k.n; r++) {
            if ((set >> r & 1) == 1 && (k.roads[r].cart == null || (go >> r & 1) == 0)) {
                return r;
            }
        }
        for (int r = 0; r < k.n; r++) {
            for (int q = r + 1; q < k.n; q++) {
                if ((set >> r & 1) == 1 && (set >> q & 1) == 1 && cartsFight(k, k.roads[r].cart, k.roads[q].cart)) {
                    return r;
                }
            }
        }
        for (int r = 0; r < k.n; r++) {
            if ((set >> r & 1) == 1) {
                k.roads[r].cart = null;
            }
        }
        return NONE;
    }

    int comer(int c, int road, int to, int sort, int load) {
        Crossing k = at(c);
        if (no(k, road)) {
            return NONE;
        }
        List<Comer> comers = k.roads[road].comers;
        if (to == NONE) {
            comers.clear();
            return 0;
        }
        if (no(k, to) || to == road || out(sort, 3) || out(load, 9) || comers.size() == 2) {
            return NONE;
        }
        Comer x = new Comer();
        x.to = to;
        x.sort = sort;
        x.load = load;
        comers.add(x);
        return comers.size();
    }

    int ever(int c, int what) {
        Crossing k = at(c);
        if (k == null || out(what, 4)) {
            return NONE;
        }
        if (what > 2) {
            List<Cart> least = least(k, what == 3);
            return least == null ? NONE : least.size();
        }
        int many = 0;
        for (List<Cart> there : allThatCanCome(k)) {
            boolean so = what == 0 ? !there.isEmpty()
                : what == 1 ? stuck(k, there, byLands(k, 0)) : both(k, there, byLands(k, 0));
            many += so ? 1 : 0;
        }
        return many;
    }

    boolean lay(int c, int which) {
        Crossing k = at(c);
        if (k == null || out(which, 1)) {
            return false;
        }
        List<Cart> least = least(k, which == 0);
        if (least == null) {
            return false;
        }
        for (Road r : k.roads) {
            r.cart = null;
        }
        for (Cart x : least) {
            k.roads[x.road].cart = x;
        }
        return true;
    }

    int odds(int c, int road) {
        Crossing k = at(c);
        if (no(k, road)) {
            return -2;
        }
        int all = 0;
        int held = 0;
        for (List<Cart> there : allThatCanCome(k)) {
            if ((set(there) >> road & 1) == 1) {
                all++;
                held += (set(goers(k, there, byLands(k, 0))) >> road & 1) == 1 ? 0 : 1;
            }
        }
        return all == 0 ? NONE : 1000 * held / all;
    }

    int mutual(int c) {
        Crossing k = at(c);
        if (k == null) {
            return NONE;
        }
        int couples = 0;
        By by = byLands(k, 0);
        for (List<Cart> there : allThatCanCome(k)) {
            for (Cart x : there) {
                for (Cart y : there) {
                    couples += x.road < y.road && waits(k, x, y, by) && waits(k, y, x, by) ? 1 : 0;
                }
            }
        }
        return couples;
    }

    int used(int rule, int c) {
        Crossing k = at(c);
        if (k == null || out(rule, 3)) {
            return NONE;
        }
        int lines = 0;
        for (List<Cart> there : allThatCanCome(k)) {
            for (Cart x : there) {
                for (Cart y : there) {
                    if (cartsFight(k, x, y)) {
                        int line = firstLine(w.rules.get(rule), asked(k, x, y, 0));
                        lines |= line == NONE ? 0 : 1 << line;
                    }
                }
            }
        }
        return lines;
    }

    int holds(int rule) {
        if (out(rule, 3)) {
            return NONE;
        }
        int set = 0;
        for (int c = 0; c < 6; c++) {
            Crossing k = w.crossings[c];
            set |= holds(k, allThatCanCome(k), byRule(k, rule)) ? 1 << c : 0;
        }
        return set;
    }

    int starve(int c) {
        Crossing k = at(c);
        if (k == null) {
            return NONE;
        }
        int set = 0;
        By by = byLands(k, 0);
        for (int r = 0; r < k.n; r++) {
            for (int q = 0; q < k.n; q++) {
                for (Comer a : k.roads[r].comers) {
                    for (Comer b : k.roads[q].comers) {
                        Cart x = cart(r, a, 0);
                        Cart y = cart(q, b, 1);
                        if (r != q && waits(k, x, y, by) && !waits(k, y, x, by)) {
                            set |= 1 << r;
                        }
                    }
                }
            }
        }
        return set;
    }

    boolean sounds(int crossings, int wording) {
        for (int c = 0; c < 6; c++) {
            Crossing k = w.crossings[c];
            if ((crossings >> c & 1) == 1 && !holds(k, allThatCanCome(k), byWording(k, wording))) {
                return false;
            }
        }
        return true;
    }

    int shortest(int crossings, int what) {
        if (crossings < 1 || crossings > 63 || out(what, 2)) {
            return NONE;
        }
        for (int words = 1; words <= 2; words++) {
            int least = NONE;
            int many = 0;
            for (int wording = words == 1 ? 1 : 18; wording <= (words == 1 ? 16 : 288); wording++) {
                if (wording % 17 != 0 && sounds(crossings, wording)) {
                    least = least == NONE ? wording : least;
                    many++;
                }
            }
            if (many > 0) {
                return what == 0 ? least : what == 1 ? words : many - 1;
            }
        }
        return NONE;
    }

    int sound(int crossings, int wording) {
        if (crossings < 1 || crossings > 63 || wording < 1 || wording > 288 || wording % 17 == 0) {
            return NONE;
        }
        return sounds(crossings, wording) ? 1 : 0;
    }

    int signs(int c) {
        Crossing k = at(c);
        if (k == null) {
            return NONE;
        }
        int best = NONE;
        for (int set = 0; set < 1 << k.n; set++) {
            Crossing in = copy(k);
            for (int r = 0; r < k.n; r++) {
                in.roads[r].sign = set >> r & 1;
            }
            if ((best == NONE || Integer.bitCount(set) < Integer.bitCount(best))
                && holds(in, allThatCanCome(in), byLands(in, 0))) {
                best = set;
            }
        }
        return best;
    }

    int border(int c, int what) {
        Crossing k = at(c);
        if (k == null || out(what, 1)) {
            return NONE;
        }
        int many = 0;
        int least = NONE;
        for (int set = 0; set < 1 << k.n; set++) {
            Crossing in = copy(k);
            for (int r = 0; r < k.n; r++) {
                in.roads[r].land = set >> r & 1;
            }
            if (!holds(in, allThatCanCome(in), byLands(in, 0))) {
                many++;
                least = least == NONE ? set : least;
            }
        }
        return what == 0 ? many : least;
    }

    int draw(int m) {
        w.state = 1664525 * w.state + 1013904223;
        return (w.state >>> 8) % m;
    }

    int run(int c, int n) {
        Crossing k = at(c);
        if (k == null || n < 1 || n > 60) {
            return NONE;
        }
        int went = 0;
        for (int i = 0; i < n; i++) {
            for (Road r : k.roads) {
                if (!r.comers.isEmpty() && draw(100) < r.chance) {
                    Comer x = r.comers.get(draw(r.comers.size()));
                    if (r.row.size() < 20) {
                        r.row.add(x);
                    }
                }
            }
            for (int r = 0; r < k.n; r++) {
                if (k.roads[r].cart == null && !k.roads[r].row.isEmpty()) {
                    k.roads[r].cart = cart(r, k.roads[r].row.remove(0), k.ticks % 100);
                }
            }
            List<Cart> there = carts(k);
            List<Cart> go = goers(k, there, byLands(k, 0));
            k.crashes += twoFight(k, go) ? 1 : 0;
            k.stood += !there.isEmpty() && go.isEmpty() ? 1 : 0;
            for (Cart x : there) {
                Road r = k.roads[x.road];
                if (go.contains(x)) {
                    r.gone++;
                    r.cart = null;
                    went++;
                } else {
                    r.wait++;
                    x.stay++;
                    r.longest = Math.max(r.longest, x.stay);
                }
            }
            k.ticks++;
        }
        return went;
    }

    int days(int c, int road, int what) {
        Crossing k = at(c);
        if (no(k, road)) {
            return -2;
        }
        Road r = k.roads[road];
        switch (what) {
            case 0: return r.gone;
            case 1: return r.wait;
            case 2: return r.longest;
            case 3: return r.gone == 0 ? NONE : 100 * r.wait / r.gone;
            case 4: return r.row.size();
            default: return -2;
        }
    }

    int count(int c, int what) {
        Crossing k = at(c);
        if (k == null) {
            return NONE;
        }
        int gone = 0;
        for (Road r : k.roads) {
            gone += r.gone;
        }
        switch (what) {
            case 0: return k.ticks;
            case 1: return k.crashes;
            case 2: return k.stood;
            case 3: return gone;
            default: return NONE;
        }
    }

    boolean link(int c, int road, int to, int in, int room) {
        Crossing k = at(c);
        if (no(k, road)) {
            return false;
        }
        if (to == NONE) {
            k.roads[road].to = NONE;
            return true;
        }
        if (no(at(to), in) || to == c || out(room, 9)) {
            return false;
        }
        k.roads[road].to = to;
        k.roads[road].in = in;
        k.roads[road].room = room;
        return true;
    }

    Road link(int id) {
        Crossing k = w.crossings[id / 6];
        return id % 6 < k.n && k.roads[id % 6].to != NONE ? k.roads[id % 6] : null;
    }

    List<Integer> bestRing;
    int bestFill;

    void walk(List<Integer> row, int fill) {
        int last = row.get(row.size() - 1);
        Road a = link(last);
        for (int next = 0; next < 36; next++) {
            if (link(next) == null || next / 6 != a.to || next % 6 == a.in) {
                continue;
            }
            if (next == row.get(0)) {
                // rows that begin with their least link are met by their numbers, the first of several first
                if (bestRing == null || fill < bestFill) {
                    bestRing = new ArrayList<>(row);
                    bestFill = fill;
                }
            } else if (next > row.get(0) && !row.contains(next)
                && (bestRing == null || fill + link(next).room + 1 < bestFill)) {
                row.add(next);
                walk(row, fill + link(next).room + 1);
                row.remove(row.size() - 1);
            }
        }
    }

    int ring(int what) {
        bestRing = null;
        for (int id = 0; id < 36; id++) {
            if (link(id) != null) {
                List<Integer> row = new ArrayList<>();
                row.add(id);
                walk(row, link(id).room + 1);
            }
        }
        if (bestRing == null) {
            return NONE;
        }
        long i = (long) what - 10;
        return what == 0 ? bestFill : what == 1 ? bestRing.size()
            : i >= 0 && i < bestRing.size() ? bestRing.get((int) i) : NONE;
    }

    boolean image(boolean taken) {
        if (taken) {
            kept = copy(w);
            return true;
        }
        if (kept == null) {
            return false;
        }
        w = copy(kept);
        return true;
    }

    int look(int what) {
        int lines = 0;
        for (List<Line> rule : w.rules) {
            lines += rule.size();
        }
        int links = 0;
        for (int id = 0; id < 36; id++) {
            links += link(id) == null ? 0 : 1;
        }
        return what == 0 ? lines : what == 1 ? links : what == 2 ? kept == null ? 0 : 1 : what == 3 ? w.state : NONE;
    }
}
