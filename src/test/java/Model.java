import java.nio.charset.StandardCharsets;
import java.util.ArrayDeque;
import java.util.ArrayList;
import java.util.Arrays;
import java.util.Comparator;
import java.util.Deque;
import java.util.HashMap;
import java.util.HashSet;
import java.util.List;
import java.util.Map;
import java.util.NoSuchElementException;
import java.util.Set;
import java.util.function.IntPredicate;

/**
 * The document once more, written another way (lists, all orders tried out, a tree of the law), to compare DustYard with.
 * Each call is done by its name; it answers a number or throws what the document tells.
 */
final class Model {
    private static final int NONE = -1;

    /** A text is wrong at a byte. */
    private static final class Wrong extends Exception {
        private static final long serialVersionUID = 1L;
        final int at;

        Wrong(int at) {
            this.at = at;
        }
    }

    /** What a condition or a sum of THE LAW is of a street. */
    private interface Term {
        int of(World w, int street);
    }

    private record Line(String kind, int n, Term condition) {
    }

    private static final class World {
        List<int[]> streets = new ArrayList<>();
        List<int[]> carts = new ArrayList<>();
        List<Integer> sieves = new ArrayList<>();
        List<int[]> contracts = new ArrayList<>();
        int[] heap = new int[7];
        int fire;
        int rats;
        int till;
        int day;
        int seed = 1;
        boolean smoke;
        int texts;
        List<Line> law;
        List<int[]> log = new ArrayList<>();

        World copy() {
            World w = new World();
            streets.forEach(s -> w.streets.add(s.clone()));
            carts.forEach(s -> w.carts.add(s.clone()));
            w.sieves.addAll(sieves);
            contracts.forEach(s -> w.contracts.add(s.clone()));
            w.heap = heap.clone();
            w.fire = fire;
            w.rats = rats;
            w.till = till;
            w.day = day;
            w.seed = seed;
            w.smoke = smoke;
            w.texts = texts;
            w.law = law;
            w.log.addAll(log);
            return w;
        }

        int way(int a, int b) {
            int[] p = a == NONE ? new int[2] : streets.get(a);
            int[] q = b == NONE ? new int[2] : streets.get(b);
            return Math.abs(p[0] - q[0]) + Math.abs(p[1] - q[1]);
        }

        int load(int street) {
            return Arrays.stream(streets.get(street), 3, 9).sum();
        }

        int sum(String kind, int street) {
            if (law == null) {
                return 0;
            }
            return law.stream().filter(l -> l.kind.equals(kind) && l.condition.of(this, street) != 0).mapToInt(l -> l.n).sum();
        }

        int fills(int street) {
            return Math.max(0, 1 + sum("more", street) - sum("less", street));
        }

        int heapOf(int low, int high) {
            return Arrays.stream(heap, low, high + 1).sum();
        }

        void tip(int street, int loads) {
            int[] s = streets.get(street);
            s[2] -= loads;
            for (int g = 1; g <= 6; g++) {
                heap[g] = Math.min(9999, heap[g] + loads * s[2 + g]);
            }
        }

        void row(int... cells) {
            log.add(cells);
            if (log.size() > 60) {
                log.remove(0);
            }
        }

        boolean can(int c) {
            int[] k = contracts.get(c);
            return k[4] == 1 && heapOf(k[0], k[1]) >= k[2];
        }

        void fill(int c, int kind) {
            int[] k = contracts.get(c);
            for (int i = 0; i < k[2]; i++) {
                int g = k[1];
                while (heap[g] == 0) {
                    g--;
                }
                heap[g]--;
            }
            till = Math.min(9999, till + k[2] * k[3]);
            k[4] = 0;
            row(day, c, kind, NONE, k[2]);
        }

        int draw() {
            seed = (int) (1103515245L * seed + 12345L);
            return seed >>> 16 & 0x7fff;
        }

        int pass(boolean draws) {
            List<Integer> fills = new ArrayList<>();
            for (int s = 0; s < streets.size(); s++) {
                fills.add(fills(s));
            }
            for (int s = 0; s < streets.size(); s++) {
                streets.get(s)[2] = Math.min(99, streets.get(s)[2] + fills.get(s));
            }
            for (int c = 0; c < carts.size(); c++) {
                int[] cart = carts.get(c);
                List<Integer> may = new ArrayList<>();
                for (int s = 0; s < streets.size(); s++) {
                    if (streets.get(s)[2] > 0 && 2 * way(s, NONE) <= cart[1] && sum("toll", s) <= till) {
                        may.add(s);
                    }
                }
                if (!may.isEmpty()) {
                    int to = may.stream().min(Comparator.comparingInt((Integer s) -> -streets.get(s)[2]).thenComparing(s -> s)).get();
                    int loads = Math.min(streets.get(to)[2], cart[0]);
                    till -= sum("toll", to);
                    tip(to, loads);
                    row(day, c, 0, to, loads);
                }
            }
            if (draws) {
                smoke = draw() % 100 < fire;
                if (smoke) {
                    heap[5] /= 2;
                    heap[6] /= 2;
                }
                if (draw() % 100 < rats) {
                    heap[4] /= 2;
                }
            }
            int filled = 0;
            for (int c = 0; c < contracts.size(); c++) {
                if (can(c)) {
                    fill(c, 1);
                    filled++;
                }
            }
            day = Math.min(9999, day + 1);
            return filled;
        }

        World after(int n, boolean draws) {
            World w = copy();
            for (int i = 0; i < n; i++) {
                w.pass(draws);
            }
            return w;
        }
    }

    private World now = new World();
    private World image;
    private final Deque<World> acts = new ArrayDeque<>();
    private List<Integer> tape = new ArrayList<>();
    private int fault = NONE;

    // ---- texts

    private static final class Text {
        final String text;
        int at;

        Text(String text) {
            this.text = text;
        }

        void blanks() {
            while (at < text.length() && text.charAt(at) == ' ') {
                at++;
            }
        }

        String run(IntPredicate in) {
            blanks();
            int end = at;
            while (end < text.length() && in.test(text.charAt(end))) {
                end++;
            }
            return text.substring(at, end);
        }

        String word() {
            return run(c -> c >= 'a' && c <= 'z');
        }

        String digits() {
            return run(c -> c >= '0' && c <= '9');
        }

        boolean over() {
            blanks();
            return at == text.length();
        }

        char sign() {
            return over() ? 0 : text.charAt(at);
        }

        boolean has(String word) {
            if (!word().equals(word)) {
                return false;
            }
            at += word.length();
            return true;
        }

        void must(String word) throws Wrong {
            if (!has(word)) {
                throw new Wrong(at);
            }
        }

        int number(int low, int high) throws Wrong {
            String d = digits();
            if (d.isEmpty() || d.length() > 3 || Integer.parseInt(d) < low || Integer.parseInt(d) > high) {
                throw new Wrong(at);
            }
            at += d.length();
            return Integer.parseInt(d);
        }

        boolean isNext(char c) {
            if (over() || text.charAt(at) != c) {
                return false;
            }
            at++;
            return true;
        }
    }

    private interface LineReader {
        void read(Text t) throws Wrong;
    }

    private void lines(int most, LineReader reader, Text t) throws Wrong {
        if (t.over()) {
            return;
        }
        for (int n = 1;; n++) {
            t.blanks();
            if (n > most) {
                throw new Wrong(t.at);
            }
            reader.read(t);
            if (t.over()) {
                return;
            }
            if (!t.isNext(';')) {
                throw new Wrong(t.at);
            }
        }
    }

    private static void limit(int has, int most, int at) throws Wrong {
        if (has >= most) {
            throw new Wrong(at);
        }
    }

    private static void yardLine(World w, Text t) throws Wrong {
        int begin = t.at;
        String word = t.word();
        t.at += word.length();
        switch (word) {
            case "street" -> {
                limit(w.streets.size(), 7, begin);
                int[] s = new int[9];
                t.must("at");
                s[0] = t.number(0, 9);
                s[1] = t.number(0, 9);
                t.must("mix");
                String d = t.digits();
                if (d.length() != 6) {
                    throw new Wrong(t.at);
                }
                t.at += 6;
                for (int g = 0; g < 6; g++) {
                    s[3 + g] = d.charAt(g) - '0';
                }
                if (t.has("waits")) {
                    s[2] = t.number(0, 99);
                }
                w.streets.add(s);
            }
            case "cart" -> {
                limit(w.carts.size(), 3, begin);
                t.must("hold");
                int hold = t.number(1, 9);
                t.must("goes");
                w.carts.add(new int[] {hold, t.number(1, 99)});
            }
            case "sieve" -> {
                limit(w.sieves.size(), 4, begin);
                w.sieves.add(t.number(2, 6));
            }
            case "contract" -> {
                limit(w.contracts.size(), 6, begin);
                int low = t.number(1, 6);
                t.must("to");
                int high = t.number(low, 6);
                t.must("many");
                int many = t.number(1, 99);
                t.must("pays");
                w.contracts.add(new int[] {low, high, many, t.number(0, 9), 1});
            }
            case "heap" -> {
                int g = t.number(1, 6);
                w.heap[g] = t.number(0, 999);
            }
            case "fire" -> w.fire = t.number(0, 100);
            case "rats" -> w.rats = t.number(0, 100);
            case "till" -> w.till = t.number(0, 999);
            case "day" -> w.day = t.number(0, 999);
            case "smoke" -> w.smoke = true;
            default -> throw new Wrong(begin);
        }
    }

    private static Line lawLine(Text t) throws Wrong {
        String kind = t.word();
        if (!Set.of("more", "less", "toll").contains(kind)) {
            throw new Wrong(t.at);
        }
        t.at += kind.length();
        int n = t.number(0, 99);
        return new Line(kind, n, t.has("if") ? any(t, 0) : (w, s) -> 1);
    }

    private static Term any(Text t, int deep) throws Wrong {
        List<Term> terms = new ArrayList<>(List.of(all(t, deep)));
        while (t.has("or")) {
            terms.add(all(t, deep));
        }
        return (w, s) -> terms.stream().anyMatch(x -> x.of(w, s) != 0) ? 1 : 0;
    }

    private static Term all(Text t, int deep) throws Wrong {
        List<Term> terms = new ArrayList<>(List.of(atom(t, deep)));
        while (t.has("and")) {
            terms.add(atom(t, deep));
        }
        return (w, s) -> terms.stream().allMatch(x -> x.of(w, s) != 0) ? 1 : 0;
    }

    private static Term atom(Text t, int deep) throws Wrong {
        t.blanks();
        boolean opens = t.word().equals("not") || t.sign() == '(';
        if (opens && deep == 6) {
            throw new Wrong(t.at);
        }
        if (t.has("not")) {
            Term x = atom(t, deep + 1);
            return (w, s) -> 1 - x.of(w, s);
        }
        if (t.isNext('(')) {
            Term x = any(t, deep + 1);
            if (!t.isNext(')')) {
                throw new Wrong(t.at);
            }
            return x;
        }
        if (t.has("smoke")) {
            return (w, s) -> w.smoke ? 1 : 0;
        }
        if (t.has("far")) {
            return (w, s) -> w.streets.get(s)[0] + w.streets.get(s)[1] > 9 ? 1 : 0;
        }
        if (t.has("full")) {
            return (w, s) -> w.streets.get(s)[2] >= 20 ? 1 : 0;
        }
        Term a = sum(t);
        if (t.isNext('<')) {
            Term b = sum(t);
            return (w, s) -> a.of(w, s) < b.of(w, s) ? 1 : 0;
        }
        if (t.isNext('>')) {
            Term b = sum(t);
            return (w, s) -> a.of(w, s) > b.of(w, s) ? 1 : 0;
        }
        throw new Wrong(t.at);
    }

    private static Term sum(Text t) throws Wrong {
        List<Term> terms = new ArrayList<>(List.of(part(t)));
        while (t.isNext('+')) {
            terms.add(part(t));
        }
        return (w, s) -> terms.stream().mapToInt(x -> x.of(w, s)).sum();
    }

    private static Term part(Text t) throws Wrong {
        if (!t.digits().isEmpty()) {
            int n = t.number(0, 999);
            return (w, s) -> n;
        }
        String word = t.word();
        Term term = switch (word) {
            case "street" -> (w, s) -> s;
            case "x" -> (w, s) -> w.streets.get(s)[0];
            case "y" -> (w, s) -> w.streets.get(s)[1];
            case "waits" -> (w, s) -> w.streets.get(s)[2];
            case "loads" -> World::load;
            case "till" -> (w, s) -> w.till;
            case "day" -> (w, s) -> w.day % 100;
            default -> throw new Wrong(t.at);
        };
        t.at += word.length();
        return term;
    }

    private String taken() {
        byte[] bytes = new byte[tape.size()];
        for (int i = 0; i < bytes.length; i++) {
            bytes[i] = (byte) (int) tape.get(i);
        }
        tape = new ArrayList<>();
        return new String(bytes, StandardCharsets.ISO_8859_1);
    }

    private int yard() {
        World w = now.copy();
        try {
            lines(14, t -> yardLine(w, t), new Text(taken()));
        } catch (Wrong e) {
            fault = e.at;
            throw new IllegalArgumentException();
        }
        fault = NONE;
        if (now.texts == 12) {
            throw new UnsupportedOperationException();
        }
        now = w;
        acts.clear();
        return ++now.texts;
    }

    private int law() {
        List<Line> read = new ArrayList<>();
        try {
            lines(12, t -> read.add(lawLine(t)), new Text(taken()));
        } catch (Wrong e) {
            fault = e.at;
            throw new IllegalArgumentException();
        }
        fault = NONE;
        now.law = read;
        acts.clear();
        return read.size();
    }

    // ---- tools

    private static void index(boolean there) {
        if (!there) {
            throw new IndexOutOfBoundsException();
        }
    }

    private static void argument(boolean is) {
        if (!is) {
            throw new IllegalArgumentException();
        }
    }

    private static void state(boolean can) {
        if (!can) {
            throw new IllegalStateException();
        }
    }

    private static void grain(int g) {
        index(g >= 1 && g <= 6);
    }

    private static void in(int i, List<?> list) {
        index(i >= 0 && i < list.size());
    }

    private static void inOrNone(int i, List<?> list) {
        index(i == NONE || i >= 0 && i < list.size());
    }

    private void act() {
        acts.addLast(now.copy());
        if (acts.size() > 12) {
            acts.removeFirst();
        }
    }

    private static int bits(int n, IntPredicate in) {
        int set = 0;
        for (int i = 0; i < n; i++) {
            set += in.test(i) ? 1 << i : 0;
        }
        return set;
    }

    private static boolean has(int set, int i) {
        return (set >>> i & 1) == 1;
    }

    /** The least round by all orders. */
    private int round(int set) {
        return tryOrders(set, NONE);
    }

    private int tryOrders(int left, int at) {
        if (left == 0) {
            return now.way(at, NONE);
        }
        int least = Integer.MAX_VALUE;
        for (int s = 0; s < now.streets.size(); s++) {
            if (has(left, s)) {
                least = Math.min(least, now.way(at, s) + tryOrders(left & ~(1 << s), s));
            }
        }
        return least;
    }

    private int waitsOf(int set) {
        int sum = 0;
        for (int s = 0; s < now.streets.size(); s++) {
            sum += has(set, s) ? now.streets.get(s)[2] : 0;
        }
        return sum;
    }

    private int[] best(int goes) {
        int[] best = {0, 0, 0};
        for (int set = 1; set < 1 << now.streets.size(); set++) {
            int candidate = set;
            if (bits(now.streets.size(), s -> has(candidate, s) && now.streets.get(s)[2] == 0) != 0) {
                continue;
            }
            int way = round(set);
            int waits = waitsOf(set);
            if (way <= goes && (waits > best[0] || waits == best[0] && way < best[1])) {
                best = new int[] {waits, way, set};
            }
        }
        return best;
    }

    private int trips(int n) {
        int all = bits(now.streets.size(), s -> now.streets.get(s)[2] > 0);
        List<Integer> rounds = new ArrayList<>();
        for (int set = 1; set <= all; set++) {
            if ((set & ~all) == 0 && round(set) <= n) {
                rounds.add(set);
            }
        }
        Set<Integer> reached = new HashSet<>(Set.of(0));
        for (int k = 0; k <= 7; k++) {
            if (reached.contains(all)) {
                return k;
            }
            Set<Integer> more = new HashSet<>();
            for (int set : reached) {
                rounds.forEach(r -> more.add(set | r));
            }
            reached = more;
        }
        return NONE;
    }

    /** The grains of the run in which a grain is. */
    private List<Integer> run(int set, int g) {
        List<Integer> run = new ArrayList<>();
        for (int other = 1; other <= 6; other++) {
            boolean apart = false;
            for (int i = 0; i < now.sieves.size(); i++) {
                apart |= has(set, i) && (g < now.sieves.get(i)) != (other < now.sieves.get(i));
            }
            if (!apart) {
                run.add(other);
            }
        }
        return run;
    }

    private boolean isParted(int set) {
        for (int[] c : now.contracts) {
            for (int g = c[0]; c[4] == 1 && g <= c[1]; g++) {
                if (run(set, g).stream().anyMatch(o -> o < c[0] || o > c[1])) {
                    return false;
                }
            }
        }
        return true;
    }

    private int fewest() {
        int best = NONE;
        for (int set = 0; set < 1 << now.sieves.size(); set++) {
            if (isParted(set) && (best == NONE || Integer.bitCount(set) < Integer.bitCount(best))) {
                best = set;
            }
        }
        return best;
    }

    private int clean(int c, int set) {
        int[] k = now.contracts.get(c);
        Set<Integer> grains = new HashSet<>();
        for (int g = k[0]; g <= k[1]; g++) {
            grains.addAll(run(set, g));
        }
        int all = grains.stream().mapToInt(g -> now.heap[g]).sum();
        return all == 0 ? 100 : 100 * now.heapOf(k[0], k[1]) / all;
    }

    /** Whether a set can be served: grain by grain, each to the contract that ends the soonest. */
    private boolean enough(int set) {
        int[] left = now.contracts.stream().mapToInt(c -> c[2]).toArray();
        for (int g = 1; g <= 6; g++) {
            int has = now.heap[g];
            for (int high = g; high <= 6; high++) {
                for (int c = 0; c < left.length; c++) {
                    int[] k = now.contracts.get(c);
                    if (has(set, c) && k[0] <= g && k[1] == high) {
                        int some = Math.min(has, left[c]);
                        has -= some;
                        left[c] -= some;
                    }
                }
            }
        }
        return bits(left.length, c -> has(set, c) && left[c] > 0) == 0;
    }

    private int[] serves() {
        int open = bits(now.contracts.size(), c -> now.contracts.get(c)[4] == 1);
        int[] best = {0, 0};
        for (int set = 0; set <= open; set++) {
            if ((set & ~open) == 0 && enough(set)) {
                int worth = 0;
                for (int c = 0; c < now.contracts.size(); c++) {
                    worth += has(set, c) ? now.contracts.get(c)[2] * now.contracts.get(c)[3] : 0;
                }
                if (worth > best[0] || worth == best[0] && Integer.bitCount(set) < Integer.bitCount(best[1])) {
                    best = new int[] {worth, set};
                }
            }
        }
        return best;
    }

    private int blend(int a, int b, int g, int p) {
        List<int[]> ways = new ArrayList<>();
        for (int i = 0; i <= 9; i++) {
            for (int j = 0; j <= 9; j++) {
                int all = i * now.load(a) + j * now.load(b);
                int some = i * now.streets.get(a)[2 + g] + j * now.streets.get(b)[2 + g];
                if (all > 0 && some * 100 >= p * all) {
                    ways.add(new int[] {i + j, i, 10 * i + j});
                }
            }
        }
        return ways.stream().min(Comparator.comparingInt((int[] w) -> w[0]).thenComparingInt(w -> w[1])).map(w -> w[2]).orElse(NONE);
    }

    private List<int[]> rows(int most) {
        List<Integer> told = tape;
        tape = new ArrayList<>();
        argument(told.size() <= 40 && told.size() % 2 == 0);
        List<int[]> rows = new ArrayList<>();
        for (int i = 0; i < told.size(); i += 2) {
            argument(told.get(i) >= 1 && told.get(i) <= 6 && told.get(i + 1) <= most);
            rows.add(new int[] {told.get(i), told.get(i + 1)});
        }
        return rows;
    }

    private int wrongRows(List<int[]> rows, int street) {
        return (int) rows.stream().filter(r -> now.streets.get(street)[2 + r[0]] != r[1]).count();
    }

    private int from(List<int[]> rows) {
        return bits(now.streets.size(), s -> wrongRows(rows, s) <= 1);
    }

    private int likely(List<int[]> rows) {
        for (int n = 0; n <= 1; n++) {
            for (int s = 0; s < now.streets.size(); s++) {
                if (wrongRows(rows, s) == n) {
                    return s;
                }
            }
        }
        return NONE;
    }

    /** The grain by which things are parted best, each being told by what it has of each grain. */
    private static int parts(List<int[]> things) {
        int best = NONE;
        int least = 1000;
        for (int g = 1; g <= 6 && things.size() >= 2; g++) {
            Map<Integer, Integer> parts = new HashMap<>();
            for (int[] thing : things) {
                parts.merge(thing[g], 1, Integer::sum);
            }
            int greatest = parts.values().stream().max(Integer::compare).get();
            if (greatest < least) {
                least = greatest;
                best = g;
            }
        }
        return best;
    }

    private int ask(List<int[]> rows) {
        List<int[]> things = new ArrayList<>();
        for (int s = 0; s < now.streets.size(); s++) {
            if (wrongRows(rows, s) <= 1) {
                things.add(Arrays.copyOfRange(now.streets.get(s), 2, 9));
            }
        }
        return parts(things);
    }

    /** Pairs that fit: the pair, then how many each grain goes through. */
    private static List<int[]> pairsOfSieves(List<int[]> rows) {
        List<int[]> fit = new ArrayList<>();
        for (int pair = 22; pair <= 77; pair++) {
            int a = pair / 10;
            int b = pair % 10;
            if (b < 2 || b > a) {
                continue;
            }
            int[] thing = {pair, 0, 0, 0, 0, 0, 0};
            for (int g = 1; g <= 6; g++) {
                boolean first = g < a;
                boolean other = first && g < b;
                thing[g] = (first ? 1 : 0) + (other ? 1 : 0);
            }
            if (rows.stream().allMatch(r -> thing[r[0]] == r[1])) {
                fit.add(thing);
            }
        }
        return fit;
    }

    /** What both have in the end: who is on turn, and the other one. */
    private int[] game(int low, int high) {
        if (low > high) {
            return new int[] {0, 0};
        }
        int[] l = game(low + 1, high);
        int[] h = game(low, high - 1);
        int[] byLeast = {now.heap[low] + l[1], l[0]};
        int[] byGreatest = {now.heap[high] + h[1], h[0]};
        return byLeast[0] - byLeast[1] >= byGreatest[0] - byGreatest[1] ? byLeast : byGreatest;
    }

    private int side() {
        int[] l = game(2, 6);
        int[] h = game(1, 5);
        return now.heap[1] + l[1] - l[0] >= now.heap[6] + h[1] - h[0] ? 0 : 1;
    }

    /** All ways to put contracts two by two. */
    private List<int[]> pairings() {
        int n = now.contracts.size();
        List<int[]> ways = new ArrayList<>();
        int[] with = new int[n];
        int total = 1;
        for (int i = 0; i < n; i++) {
            total *= n + 1;
        }
        for (int code = 0; code < total; code++) {
            int rest = code;
            for (int i = n - 1; i >= 0; i--) {
                with[i] = rest % (n + 1) - 1;
                rest /= n + 1;
            }
            if (isPairing(with)) {
                ways.add(with.clone());
            }
        }
        return ways;
    }

    private boolean isPairing(int[] with) {
        for (int i = 0; i < with.length; i++) {
            if (with[i] == NONE) {
                continue;
            }
            int[] a = now.contracts.get(i);
            int[] b = now.contracts.get(with[i]);
            if (with[i] == i || with[with[i]] != i || a[4] + b[4] < 2 || Math.max(a[0], b[0]) > Math.min(a[1], b[1])) {
                return false;
            }
        }
        return true;
    }

    private int pays(int[] with) {
        int pays = 0;
        for (int i = 0; i < with.length; i++) {
            pays += with[i] == NONE ? 0 : now.contracts.get(i)[3];
        }
        return pays;
    }

    private int pairs(int contract) {
        int[] best = null;
        for (int[] way : pairings()) {
            // They come in the order contract by contract, none first.
            if (best == null || pays(way) > pays(best)) {
                best = way;
            }
        }
        return contract == NONE ? pays(best) : best[contract];
    }

    private int share(int cart, int n) {
        int[] has = new int[now.carts.size()];
        for (int i = 0; i < n; i++) {
            int best = 0;
            for (int c = 0; c < has.length; c++) {
                if (Math.floorDiv(now.carts.get(c)[0], has[c] + 1) > Math.floorDiv(now.carts.get(best)[0], has[best] + 1)) {
                    best = c;
                }
            }
            has[best]++;
        }
        return has[cart];
    }

    private int rests(int street) {
        int w = now.streets.get(street)[2] / 10;
        int[][] carter = {{w - 3, w}, {0, 1}};
        int[][] rat = {{1, 0}, {-1, 2}};
        int set = 0;
        for (int i = 0; i < 2; i++) {
            for (int j = 0; j < 2; j++) {
                if (carter[i][j] >= carter[1 - i][j] && rat[i][j] >= rat[i][1 - j]) {
                    set |= 1 << 2 * i + j;
                }
            }
        }
        return set;
    }

    private int odds(int n, int k) {
        long sum = 0;
        long all = 1;
        for (int i = 0; i < n; i++) {
            all *= 100;
        }
        for (int way = 0; way < 1 << n; way++) {
            long chance = 1;
            for (int i = 0; i < n; i++) {
                chance *= has(way, i) ? now.fire : 100 - now.fire;
            }
            sum += Integer.bitCount(way) >= k ? chance : 0;
        }
        return (int) (sum * 10000 / all);
    }

    private static int most(int n, java.util.function.IntUnaryOperator of) {
        int best = NONE;
        for (int i = n - 1; i >= 0; i--) {
            if (best == NONE || of.applyAsInt(i) >= of.applyAsInt(best)) {
                best = i;
            }
        }
        return best;
    }

    private static void what(int what, int n) {
        if (what < 0 || what >= n) {
            throw new NoSuchElementException();
        }
    }

    private int street(int s, int what) {
        in(s, now.streets);
        what(what, 8);
        int all = waitsOf(-1);
        int[] row = now.streets.get(s);
        return switch (what) {
            case 0, 1, 2 -> row[what];
            case 3 -> now.load(s);
            case 4 -> now.fills(s);
            case 5 -> now.sum("toll", s);
            case 6 -> row[0] + row[1];
            default -> all == 0 ? 0 : row[2] * 100 / all;
        };
    }

    private int cart(int c, int what) {
        in(c, now.carts);
        what(what, 5);
        int goes = now.carts.get(c)[1];
        return switch (what) {
            case 0, 1 -> now.carts.get(c)[what];
            case 2 -> bits(now.streets.size(), s -> 2 * now.way(NONE, s) <= goes);
            case 3 -> best(goes)[0];
            default -> best(goes)[2];
        };
    }

    private int count(int what) {
        return switch (what) {
            case 0 -> now.streets.size();
            case 1 -> now.carts.size();
            case 2 -> now.sieves.size();
            case 3 -> now.contracts.size();
            case 4 -> now.texts;
            case 5 -> now.law == null ? NONE : now.law.size();
            case 6 -> now.fire;
            case 7 -> now.rats;
            case 8 -> now.till;
            case 9 -> now.day;
            case 10 -> now.smoke ? 1 : 0;
            case 11 -> now.log.size();
            case 12 -> acts.size();
            default -> NONE;
        };
    }

    private int feed(int... a) {
        if (tape.size() + 20 > 400) {
            return NONE;
        }
        for (int n : a) {
            for (int i = 3; i >= 0; i--) {
                tape.add(n >>> 8 * i & 255);
            }
        }
        return tape.size();
    }

    private int end(int n) {
        if (n < 0 || n > tape.size()) {
            return 0;
        }
        tape = new ArrayList<>(tape.subList(0, n));
        return 1;
    }

    private int round() {
        List<Integer> told = tape;
        tape = new ArrayList<>();
        argument(told.size() <= 6 && told.stream().allMatch(s -> s < now.streets.size()));
        return round(told.stream().mapToInt(s -> 1 << s).reduce(0, (a, b) -> a | b));
    }

    private int meshes(boolean first) {
        List<int[]> fit = pairsOfSieves(rows(2));
        if (!first) {
            return fit.size();
        }
        return fit.isEmpty() ? NONE : fit.get(0)[0];
    }

    private int span(int n, boolean most) {
        argument(n >= 0 && n <= 60);
        List<Integer> tills = new ArrayList<>();
        for (int seed = 1; seed <= 6; seed++) {
            World w = now.copy();
            w.seed = seed;
            tills.add(w.after(n, true).till);
        }
        return tills.stream().sorted().toList().get(most ? 5 : 0);
    }

    private int led(int street, boolean day) {
        in(street, now.streets);
        List<int[]> rows = now.log.stream().filter(r -> r[2] == 0 && r[3] == street).toList();
        if (!day) {
            return rows.size();
        }
        return rows.isEmpty() ? NONE : rows.get(rows.size() - 1)[0];
    }

    private int log(int ago, int what) {
        what(what, 5);
        return ago < 0 || ago >= now.log.size() ? -2 : now.log.get(now.log.size() - 1 - ago)[what];
    }

    // ---- the calls

    int call(String name, int... a) {
        return switch (name) {
            case "feed", "end", "yard", "law", "fault" -> callTape(name, a);
            case "days", "tip", "buy", "take", "drop", "hire", "lay", "douse", "fill" -> callAct(name, a);
            case "street", "mix", "cart", "mesh", "contract", "heap", "way", "classes", "classOf", "held" -> callThing(name, a);
            case "ahead", "trial", "span", "led", "log", "seed", "undo", "image", "back", "count" -> callTime(name, a);
            case "round", "from", "likely", "ask", "meshes", "sift" -> callGuess(name, a);
            default -> callRest(name, a);
        };
    }

    private int callTape(String name, int... a) {
        return switch (name) {
            case "feed" -> feed(a);
            case "end" -> end(a[0]);
            case "yard" -> yard();
            case "law" -> law();
            default -> fault;
        };
    }

    private int callThing(String name, int... a) {
        switch (name) {
            case "street":
                return street(a[0], a[1]);
            case "mix":
                in(a[0], now.streets);
                grain(a[1]);
                return now.streets.get(a[0])[2 + a[1]];
            case "cart":
                return cart(a[0], a[1]);
            case "mesh":
                in(a[0], now.sieves);
                return now.sieves.get(a[0]);
            case "contract":
                in(a[0], now.contracts);
                what(a[1], 5);
                return now.contracts.get(a[0])[a[1]];
            case "heap":
                grain(a[0]);
                return now.heap[a[0]];
            case "way":
                inOrNone(a[0], now.streets);
                inOrNone(a[1], now.streets);
                return now.way(a[0], a[1]);
            case "classes":
                Set<Integer> begins = new HashSet<>();
                for (int g = 1; g <= 6; g++) {
                    begins.add(run(a[0], g).get(0));
                }
                return begins.size();
            case "classOf":
                grain(a[1]);
                List<Integer> run = run(a[0], a[1]);
                return 10 * run.get(0) + run.get(run.size() - 1);
            default:
                grain(a[1]);
                return run(a[0], a[1]).stream().mapToInt(g -> now.heap[g]).sum();
        }
    }

    private int callAct(String name, int... a) {
        switch (name) {
            case "days":
                argument(a[0] >= 1 && a[0] <= 60);
                act();
                int filled = 0;
                for (int i = 0; i < a[0]; i++) {
                    filled += now.pass(true);
                }
                return filled;
            case "tip":
                in(a[0], now.streets);
                state(now.streets.get(a[0])[2] > 0);
                act();
                now.tip(a[0], 1);
                return now.streets.get(a[0])[2];
            case "buy":
                argument(a[0] >= 2 && a[0] <= 6);
                state(now.sieves.size() < 4 && now.till >= 5);
                act();
                now.till -= 5;
                now.sieves.add(a[0]);
                return now.sieves.size() - 1;
            case "take":
                argument(a[0] >= 1 && a[0] <= 6 && a[1] >= a[0] && a[1] <= 6 && a[2] >= 1 && a[2] <= 99 && a[3] >= 0 && a[3] <= 9);
                state(now.contracts.size() < 6);
                act();
                now.contracts.add(new int[] {a[0], a[1], a[2], a[3], 1});
                return now.contracts.size() - 1;
            case "drop":
                in(a[0], now.contracts);
                state(now.contracts.get(a[0])[4] == 1);
                act();
                now.contracts.get(a[0])[4] = 0;
                return 0;
            case "hire":
                argument(a[0] >= 1 && a[0] <= 9 && a[1] >= 1 && a[1] <= 99);
                state(now.carts.size() < 3);
                act();
                now.carts.add(new int[] {a[0], a[1]});
                return now.carts.size() - 1;
            case "lay":
                in(a[0], now.streets);
                grain(a[1]);
                argument(a[2] >= 0 && a[2] <= 9);
                act();
                int had = now.streets.get(a[0])[2 + a[1]];
                now.streets.get(a[0])[2 + a[1]] = a[2];
                return had;
            case "douse":
                act();
                boolean was = now.smoke;
                now.smoke = false;
                return was ? 1 : 0;
            default:
                in(a[0], now.contracts);
                state(now.can(a[0]));
                act();
                now.fill(a[0], 2);
                return now.till;
        }
    }

    private int callGuess(String name, int... a) {
        return switch (name) {
            case "round" -> round();
            case "from" -> from(rows(9));
            case "likely" -> likely(rows(9));
            case "ask" -> ask(rows(9));
            case "meshes" -> meshes(a[0] == 1);
            default -> parts(pairsOfSieves(rows(2)));
        };
    }

    private int callTime(String name, int... a) {
        switch (name) {
            case "ahead":
                inOrNone(a[0], now.streets);
                argument(a[1] >= 0 && a[1] <= 60);
                World w = now.after(a[1], false);
                return a[0] == NONE ? w.heapOf(1, 6) : w.streets.get(a[0])[2];
            case "trial":
                argument(a[0] >= 0 && a[0] <= 60);
                World t = now.after(a[0], true);
                return a[1] == 1 ? t.heapOf(1, 6) : t.till;
            case "span":
                return span(a[0], a[1] == 1);
            case "led":
                return led(a[0], a[1] == 1);
            case "log":
                return log(a[0], a[1]);
            case "seed":
                int was = now.seed;
                now.seed = a[0];
                return was;
            case "undo":
                if (acts.isEmpty()) {
                    return 0;
                }
                now = acts.removeLast();
                return 1;
            case "image":
                image = now.copy();
                return 0;
            case "back":
                if (image == null) {
                    return 0;
                }
                now = image.copy();
                acts.clear();
                return 1;
            default:
                return count(a[0]);
        }
    }

    private int callRest(String name, int... a) {
        switch (name) {
            case "fewest":
                return fewest();
            case "clean":
                in(a[0], now.contracts);
                return clean(a[0], a[1]);
            case "trips":
                argument(a[0] >= 0 && a[0] <= 99);
                return trips(a[0]);
            case "worth":
                return serves()[0];
            case "serves":
                return serves()[1];
            case "blend":
                in(a[0], now.streets);
                in(a[1], now.streets);
                grain(a[2]);
                argument(a[0] != a[1] && a[3] >= 0 && a[3] <= 100);
                return blend(a[0], a[1], a[2], a[3]);
            case "ends":
                return game(1, 6)[0] - game(1, 6)[1];
            case "side":
                return side();
            case "pairs":
                inOrNone(a[0], now.contracts);
                return pairs(a[0]);
            case "share":
                in(a[0], now.carts);
                argument(a[1] >= 0 && a[1] <= 99);
                return share(a[0], a[1]);
            case "rests":
                in(a[0], now.streets);
                return rests(a[0]);
            case "odds":
                argument(a[0] >= 0 && a[0] <= 5 && a[1] >= 0 && a[1] <= 5);
                return odds(a[0], a[1]);
            case "most":
                what(a[0], 3);
                return a[0] == 2 ? most(now.contracts.size(), c -> now.contracts.get(c)[2] * now.contracts.get(c)[3])
                        : most(now.streets.size(), s -> a[0] == 0 ? now.streets.get(s)[2] : now.way(s, NONE));
            case "open":
                return bits(now.contracts.size(), c -> a[0] == 1 ? now.can(c) : now.contracts.get(c)[4] == 1);
            case "twins":
                int pairs = 0;
                for (int[] s : now.streets) {
                    for (int[] o : now.streets) {
                        pairs += s != o && Arrays.equals(s, 3, 9, o, 3, 9) ? 1 : 0;
                    }
                }
                return pairs / 2;
            case "wanted":
                grain(a[0]);
                return bits(now.contracts.size(), c -> now.contracts.get(c)[4] == 1 && now.contracts.get(c)[0] <= a[0]
                        && a[0] <= now.contracts.get(c)[1]);
            default:
                throw new AssertionError(name);
        }
    }
}
