import java.util.ArrayList;
import java.util.Arrays;
import java.util.HashMap;
import java.util.List;
import java.util.Map;

/**
 * The document once more, as naively as can be: texts are walked as trees, ends are exceptions,
 * all orders are tried, all standings are remembered. OracleTest lays DyeVats beside it.
 */
final class Oracle {
    static final class Fault extends RuntimeException {
        final int code;
        Fault(int number, int place) { super(null, null, false, false); code = -1000 * number - place; }
    }
    static final class End extends RuntimeException {
        final int how;
        End(int how) { super(null, null, false, false); this.how = how; }
    }
    static final class Refused extends RuntimeException {
        Refused() { super(null, null, false, false); }
    }

    static final class Node {
        char act; int id; int x; int y; List<Node> then = new ArrayList<>(); List<Node> otherwise = new ArrayList<>();
    }

    final int[] kind = new int[6];
    final int[] brim = {99, 99, 99, 99, 99, 99};
    int[] measure = new int[6];
    final List<Integer> tape = new ArrayList<>();
    final List<List<Node>> recipes = new ArrayList<>(List.of(List.of(), List.of(), List.of()));
    final int[] acts = new int[3];
    String rule = "";
    final int[][] sums = new int[8][];
    int spilt, cloth, colour, x = 1;
    int[] keptMeasure; int keptSpilt, keptCloth, keptColour, keptX;

    // ---- reading a RECIPE

    static final class RecipeText {
        final String s; int p; int acts;
        RecipeText(String s) { this.s = s; }
        char peek() { return p < s.length() ? s.charAt(p) : (char) 999; }
        Fault wrong() { return new Fault(1, p); }
        int vat() { int v = "abcdef".indexOf(peek()); if (v < 0) throw wrong(); p++; return v; }
        void pass(char c) { if (peek() != c) throw wrong(); p++; }
        List<Node> row(int open, String closers) {
            List<Node> row = new ArrayList<>();
            while (row.isEmpty() || closers.indexOf(peek()) < 0) row.add(one(open));
            return row;
        }
        void opening(int open) { if (peek() == '(' && open == 6) throw new Fault(5, p); pass('('); }
        Node one(int open) {
            Node n = new Node();
            n.act = peek();
            if ("dtphwik".indexOf(n.act) < 0) throw wrong();
            p++; n.id = acts++;
            if (n.act == 'k') return n;
            n.x = vat();
            if (n.act == 'p' || n.act == 'h') n.y = vat();
            if (n.act == 'w') { opening(open); n.then = row(open + 1, ")"); pass(')'); }
            if (n.act == 'i') { opening(open); n.then = row(open + 1, ":"); pass(':'); n.otherwise = row(open + 1, ")"); pass(')'); }
            return n;
        }
        List<Node> whole() { List<Node> row = row(0, "" + (char) 999); return row; }
    }

    // ---- reading and reckoning a SPEC; with no walk it is only read

    final class SpecText {
        final String s; final Walk walk; int p;
        SpecText(String s, Walk walk) { this.s = s; this.walk = walk; }
        char peek() { return p < s.length() ? s.charAt(p) : (char) 999; }
        Fault wrong() { return new Fault(1, p); }
        void open(int open) { if (open == 6) throw new Fault(5, p); p++; }
        void pass(char c) { if (peek() != c) throw wrong(); p++; }
        boolean choice(int open, boolean asked) {
            boolean any = part(open, asked);
            while (peek() == '|') { p++; boolean more = part(open, asked && !any); any = any || more; }
            return any;
        }
        boolean part(int open, boolean asked) {
            boolean all = piece(open, asked);
            while (peek() == '&') { p++; boolean more = piece(open, asked && all); all = all && more; }
            return all;
        }
        boolean piece(int open, boolean asked) {
            if (peek() == '!') { open(open); return !piece(open + 1, asked); }
            if (peek() == '(') { open(open); boolean is = choice(open + 1, asked); pass(')'); return is; }
            int left = terms(open, asked);
            char c = peek();
            if ("<>=".indexOf(c) < 0) throw wrong();
            p++;
            int right = terms(open, asked);
            return c == '<' ? left < right : c == '>' ? left > right : left == right;
        }
        int terms(int open, boolean asked) {
            int value = factors(open, asked);
            while (peek() == '+' || peek() == '-') { char c = s.charAt(p++); int more = factors(open, asked); value = c == '+' ? value + more : value - more; }
            return value;
        }
        int factors(int open, boolean asked) {
            int value = factor(open, asked);
            while (peek() == '*' || peek() == '/' || peek() == '%') {
                char c = s.charAt(p++);
                int more = factor(open, asked);
                if (c == '*') value *= more;
                else if (more == 0 && asked && walk != null) throw new Refused();
                else if (more != 0) value = c == '/' ? value / more : value % more;
            }
            return value;
        }
        int factor(int open, boolean asked) {
            char c = peek();
            if (c == '[') { open(open); int value = terms(open + 1, asked); pass(']'); return value; }
            if (c >= '0' && c <= '9') {
                int from = p;
                while (peek() >= '0' && peek() <= '9') { if (p - from == 5) throw new Fault(2, p); p++; }
                return Integer.parseInt(s.substring(from, p));
            }
            int known = "abcdefABCDEFslnk".indexOf(c);
            if (known < 0) throw wrong();
            p++;
            if (walk == null) return 1;
            if (known < 6) return walk.begin[known];
            if (known < 12) return walk.m[known - 6];
            return new int[] {walk.spilt, walk.cloth, walk.steps, walk.ended}[known - 12];
        }
    }

    boolean holds(Walk walk) {
        if (rule.isEmpty()) return true;
        try { return new SpecText(rule, walk).choice(0, true); } catch (Refused r) { return false; }
    }

    // ---- a RUN

    class Walk {
        final int[] begin; final int[] m; int spilt, cloth, colour, steps, ended;
        int limit; int slipAt = -1; int slipTimes; boolean slipped;
        final Map<String, Integer> seen = new HashMap<>();
        boolean remember; int ahead = -2, length = -2;
        Walk(int[] m) { begin = m.clone(); this.m = m.clone(); }

        Walk go(List<Node> row, int limit) {
            this.limit = limit;
            try { walk(row); ended = 1; } catch (End e) { ended = e.how; }
            return this;
        }
        void walk(List<Node> row) { for (Node n : row) walk(n); }
        void walk(Node n) {
            if (n.act == 'w') { while (test(n)) walk(n.then); return; }
            if (n.act == 'i') { walk(test(n) ? n.then : n.otherwise); return; }
            ahead(n);
            if (n.act != 'k') {
                int times = 1;
                if (steps == slipAt) { times = slipTimes; slipped = true; }
                for (int i = 0; i < times; i++) act(n.act, n.x, n.y);
            }
            behind();
            if (n.act == 'k') throw new End(2);
        }
        boolean test(Node n) { ahead(n); boolean full = m[n.x] > 0 && kind[n.x] != 2; behind(); return full; }
        void ahead(Node n) {
            if (remember) {
                Integer before = seen.put(n.id + Arrays.toString(m), steps);
                if (before != null) { ahead = before; length = steps - before; throw new End(9); }
            }
            if (steps == limit) throw new End(3);
            steps++;
        }
        void act(char act, int x, int y) {
            if (act == 'd') { if (m[x] == brim[x]) spilt++; else m[x]++; }
            if (act == 't' && m[x] > 0) { m[x]--; cloth++; colour = (7 * colour + x + 1) % 1009; }
            if ((act == 'p' || act == 'h') && x != y) {
                int n = act == 'p' ? m[x] : m[x] / 2;
                while (n > 0 && m[y] < brim[y]) { m[x]--; m[y]++; n--; }
            }
        }
        void behind() {
            for (int v = 0; v < 6; v++) if (kind[v] == 1 && m[v] > 0) { m[v]--; spilt++; }
            for (int v = 0; v < 6; v++) {
                int next = (v + 1) % 6;
                if (kind[v] == 3 && m[v] - m[next] >= 2 && m[next] < brim[next]) { m[v]--; m[next]++; }
            }
        }
    }

    // ---- the face

    boolean vat(int v, int k, int b, int m) {
        if (v < 0 || v > 5 || k < 0 || k > 3 || b < 0 || b > 99 || m < 0 || m > b) return false;
        kind[v] = k; brim[v] = b; measure[v] = m;
        return true;
    }

    int feed(int... five) {
        if (tape.size() + 20 > 160) return -1;
        for (int i : five) for (int s = 3; s >= 0; s--) tape.add(i >> 8 * s & 255);
        return tape.size();
    }

    String text(int n) {
        StringBuilder b = new StringBuilder();
        for (int i = 0; i < n; i++) b.append((char) (int) tape.get(i));
        tape.clear();
        return b.toString();
    }

    boolean bad(int w) { return w < 0 || w > 2; }

    int recipe(int w, int n) {
        if (bad(w) || n < 1 || n > 120 || n > tape.size()) return -1;
        RecipeText t = new RecipeText(text(n));
        try { recipes.set(w, t.whole()); acts[w] = t.acts; return t.acts; } catch (Fault f) { return f.code; }
    }

    int spec(int n) {
        if (n < 1 || n > 120 || n > tape.size()) return -1;
        String s = text(n);
        SpecText t = new SpecText(s, null);
        try { t.choice(0, true); if (t.p < n) throw t.wrong(); rule = s; return 1; } catch (Fault f) { return f.code; }
    }

    int run(int w, int limit, int what) {
        if (bad(w) || limit < 1 || limit > 20000 || what < 0 || what > 5 && what < 10 || what > 15) return -1;
        Walk k = new Walk(measure).go(recipes.get(w), limit);
        if (what >= 10) return k.m[what - 10];
        return new int[] {k.ended, k.steps, k.spilt, k.cloth, k.colour, holds(k) ? 1 : 0}[what];
    }

    int done(int w, int limit) {
        if (bad(w) || limit < 1 || limit > 20000) return -1;
        Walk k = new Walk(measure);
        k.colour = colour;
        k.go(recipes.get(w), limit);
        measure = k.m; spilt += k.spilt; cloth += k.cloth; colour = k.colour;
        return k.ended;
    }

    List<int[]> beginnings(int vats, int bound) {
        List<int[]> all = new ArrayList<>();
        all.add(measure.clone());
        for (int v = 0; v < 6; v++) {
            if ((vats >> v & 1) == 0) continue;
            List<int[]> more = new ArrayList<>();
            for (int[] m : all) for (int i = 0; i <= bound && i <= brim[v]; i++) { int[] c = m.clone(); c[v] = i; more.add(c); }
            all = more;
        }
        return all;
    }

    boolean badSurvey(int vats, int bound, int what) {
        return vats < 1 || vats > 63 || Integer.bitCount(vats) > 3 || bound < 1 || bound > 20 || what < -1 || what > 5;
    }

    int told(List<int[]> found, int what) { return what == -1 ? found.size() : found.isEmpty() ? -2 : found.get(0)[what]; }

    int proved(int w, int vats, int bound, int what) {
        if (bad(w) || badSurvey(vats, bound, what)) return -3;
        List<int[]> found = new ArrayList<>();
        for (int[] m : beginnings(vats, bound)) if (!holds(new Walk(m).go(recipes.get(w), 2000))) found.add(m);
        return told(found, what);
    }

    int alike(int w, int other, int vats, int bound, int what) {
        if (bad(w) || bad(other) || badSurvey(vats, bound, what)) return -3;
        List<int[]> found = new ArrayList<>();
        for (int[] m : beginnings(vats, bound)) {
            Walk a = new Walk(m).go(recipes.get(w), 2000);
            Walk b = new Walk(m).go(recipes.get(other), 2000);
            if (a.ended != b.ended || !Arrays.equals(a.m, b.m)) found.add(m);
        }
        return told(found, what);
    }

    int fit(int w, int vats, int bound, int c, int what) {
        if (bad(w) || badSurvey(vats, bound, what) || c < 0 || c > 1008) return -3;
        List<int[]> found = new ArrayList<>();
        for (int[] m : beginnings(vats, bound)) if (new Walk(m).go(recipes.get(w), 2000).colour == c) found.add(m);
        return told(found, what);
    }

    int round(int w, int what) {
        if (bad(w) || what < 0 || what > 2) return -1;
        Walk k = new Walk(measure);
        k.remember = true;
        k.go(recipes.get(w), 20000);
        if (what == 0) return k.ended == 9 ? 1 : k.ended == 3 ? 2 : 0;
        return what == 1 ? k.ahead : k.length;
    }

    int shortest(int what) {
        if (what < -1 || what > 99 || tape.size() < 6) return -4;
        int[] target = new int[6];
        for (int v = 0; v < 6; v++) target[v] = tape.get(v);
        tape.clear();
        long all = 1;
        boolean high = false;
        for (int v = 0; v < 6; v++) { all *= brim[v] + 1; high |= target[v] > brim[v]; }
        if (all > 20000 || high) return -3;
        String acts = rowTo(Arrays.toString(target));
        if (acts == null) return -2;
        return what == -1 ? acts.length() : what < acts.length() ? acts.charAt(what) : -4;
    }

    // Rows grow by levels; each level holds the standings with their least rows, sorted by them.
    String rowTo(String target) {
        Map<String, String> rows = new HashMap<>();
        List<int[]> level = List.of(measure.clone());
        rows.put(Arrays.toString(measure), "");
        for (int depth = 0; depth <= 100; depth++) {
            if (rows.containsKey(target)) return rows.get(target);
            Map<String, String> fresh = new HashMap<>();
            Map<String, int[]> standing = new HashMap<>();
            for (int[] m : level) {
                String row = rows.get(Arrays.toString(m));
                for (int a = 0; a < 84; a++) {
                    Walk k = new Walk(m);
                    if (a < 6) k.act('d', a, 0);
                    else if (a < 12) k.act('t', a - 6, 0);
                    else if (a < 48) k.act('p', (a - 12) / 6, (a - 12) % 6);
                    else k.act('h', (a - 48) / 6, (a - 48) % 6);
                    k.behind();
                    String to = Arrays.toString(k.m);
                    String longer = row + (char) a;
                    if (rows.containsKey(to)) continue;
                    if (!fresh.containsKey(to) || fresh.get(to).compareTo(longer) > 0) { fresh.put(to, longer); standing.put(to, k.m); }
                }
            }
            rows.putAll(fresh);
            level = new ArrayList<>(standing.values());
        }
        return null;
    }

    int slips(int w, int limit, int what) {
        if (bad(w) || limit < 1 || limit > 2000 || what < 0 || what > 3) return -1;
        int steps = new Walk(measure).go(recipes.get(w), limit).steps;
        int found = 0;
        for (int at = 1; at <= steps; at++) {
            Walk k = new Walk(measure);
            k.slipAt = at;
            k.slipTimes = what % 2 == 0 ? 0 : 2;
            k.go(recipes.get(w), limit);
            if (k.slipped && holds(k)) { found++; if (what >= 2) return at; }
        }
        return what >= 2 ? -2 : found;
    }

    int stepsOf(int[] sum) {
        int[] m = new int[6];
        for (int v = 0; v < 6; v++) m[v] = Math.min(sum[3 + v], brim[v]);
        return new Walk(m).go(recipes.get(sum[0]), 1000).steps;
    }

    int sum(int i, int w, int due, int price) {
        if (i < 0 || i > 7 || bad(w) || due < 0 || due > 9999 || price < 0 || price > 99 || tape.size() < 6) return -1;
        int[] told = {w, due, price, tape.get(0), tape.get(1), tape.get(2), tape.get(3), tape.get(4), tape.get(5)};
        tape.clear();
        for (int v = 3; v < 9; v++) if (told[v] > 99) return -2;
        sums[i] = told;
        return stepsOf(told);
    }

    int order(int bits, int what) {
        if (bits < 1 || bits > 255 || what < -1 || what >= Integer.bitCount(bits)) return -1;
        for (int i = 0; i < 8; i++) if ((bits >> i & 1) != 0 && sums[i] == null) return -2;
        int[] steps = new int[8];
        for (int i = 0; i < 8; i++) if ((bits >> i & 1) != 0) steps[i] = stepsOf(sums[i]);
        best = Integer.MAX_VALUE;
        permute(bits, "", 0, 0, steps);
        return what == -1 ? best : bestRow.charAt(what) - '0';
    }
    int best; String bestRow;
    void permute(int left, String row, int time, int prices, int[] steps) {
        if (left == 0 && prices < best) { best = prices; bestRow = row; }
        for (int i = 0; i < 8; i++) {
            if ((left >> i & 1) == 0) continue;
            int then = time + steps[i];
            permute(left & ~(1 << i), row + i, then, prices + sums[i][2] * Math.max(0, then - sums[i][1]), steps);
        }
    }

    boolean seed(int s) { if (s < 0 || s > 65535) return false; x = s; return true; }

    int night(int n) {
        if (n < 1 || n > 40) return -1;
        int before = spilt;
        for (int i = 0; i < n; i++) {
            x = (int) ((25173L * x + 13849) % 65536);
            int v = x % 6;
            if (x / 6 % 2 == 0) { if (measure[v] < brim[v]) measure[v]++; else spilt++; }
            else if (measure[v] > 0) { measure[v]--; spilt++; }
        }
        return spilt - before;
    }

    int keep() {
        keptMeasure = measure.clone(); keptSpilt = spilt; keptCloth = cloth; keptColour = colour; keptX = x;
        return count(6);
    }

    boolean undo() {
        if (keptMeasure == null) return false;
        for (int v = 0; v < 6; v++) if (keptMeasure[v] > brim[v]) return false;
        measure = keptMeasure.clone(); spilt = keptSpilt; cloth = keptCloth; colour = keptColour; x = keptX;
        return true;
    }

    int check(int n) {
        if (n < 0 || n > 6 || tape.size() < 4 * n) return -2;
        int answer = -1;
        for (int v = n - 1; v >= 0; v--) {
            int number = 0;
            for (int i = 0; i < 4; i++) number = number * 256 + tape.get(4 * v + i);
            if (number != measure[v]) answer = v;
        }
        tape.clear();
        return answer;
    }

    int count(int what) {
        int told = 0;
        for (int i = 0; i < 8; i++) if (sums[i] != null) told += 1 << i;
        int[] first = {spilt, cloth, colour, tape.size(), x, told, Arrays.stream(measure).sum()};
        if (what >= 0 && what < 7) return first[what];
        if (what >= 10 && what < 16) return measure[what - 10];
        if (what >= 20 && what < 26) return brim[what - 20];
        if (what >= 30 && what < 36) return kind[what - 30];
        if (what >= 40 && what < 43) return acts[what - 40];
        return -1;
    }
}
