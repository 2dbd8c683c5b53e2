import java.util.Random;

/** Lays DyeVats beside Oracle, the document once more in a naive form, over rows of chance calls. */
public final class OracleTest {
    private static final int ROWS = 400;
    private static final int CALLS = 150;
    private final Random chance;
    private final StringBuilder told = new StringBuilder();
    private DyeVats town;
    private Oracle oracle;
    private static int wrong = 0;

    private OracleTest(long seed) { chance = new Random(seed); }

    public static void main(String[] args) {
        int rows = args.length > 0 ? Integer.parseInt(args[0]) : ROWS;
        for (int seed = 1; seed <= rows && wrong < 5; seed++) new OracleTest(seed).row(seed);
        System.out.println(wrong == 0 ? "all answers are the oracle's" : wrong + " rows are not the oracle's");
        if (wrong != 0) System.exit(1);
    }

    private int upTo(int n) { return chance.nextInt(n + 1); }
    private boolean now(int oneIn) { return chance.nextInt(oneIn) == 0; }
    private int index(int n) { return now(25) ? (now(2) ? n : -1) : chance.nextInt(n); }
    private char of(String s) { return s.charAt(chance.nextInt(s.length())); }

    private void row(int seed) {
        town = new DyeVats();
        oracle = new Oracle();
        for (int i = 0; i < CALLS; i++) {
            boolean same = oneCall();
            for (int what = 0; what < 43 && same; what++) same = due("count(" + what + ")", town.count(what), oracle.count(what));
            if (!same) {
                wrong++;
                System.out.println("seed " + seed + ":\n" + told);
                return;
            }
        }
    }

    private boolean due(String call, int got, int want) {
        if (got == want) return true;
        told.append(call).append(" answered ").append(got).append(", due is ").append(want).append('\n');
        return false;
    }

    private boolean tell(String call, int got, int want) {
        told.append(call).append(" -> ").append(want).append('\n');
        return due(call, got, want);
    }

    private boolean fed(String s) {
        for (int i = 0; i < s.length(); i += 20) {
            int[] x = new int[5];
            for (int j = 0; j < 20; j++) x[j / 4] = x[j / 4] << 8 | (i + j < s.length() ? s.charAt(i + j) : 'a');
            if (!due("feed", town.feed(x[0], x[1], x[2], x[3], x[4]), oracle.feed(x))) return false;
        }
        told.append("fed ").append(s).append('\n');
        return true;
    }

    private String acts(int depth, int n) {
        StringBuilder b = new StringBuilder();
        for (int i = 0; i <= n; i++) {
            String vats = now(3) ? "abcdef" : "abc";
            switch (chance.nextInt(depth > 5 ? 4 : 8)) {
                case 0: b.append('d').append(of(vats)); break;
                case 1: b.append('t').append(of(vats)); break;
                case 2: b.append('p').append(of(vats)).append(of(vats)); break;
                case 3: b.append('h').append(of(vats)).append(of(vats)); break;
                case 4: case 5:
                    String v = "" + of(vats);
                    b.append('w').append(v).append('(').append(now(2) ? "t" + v : "").append(acts(depth + 1, upTo(2))).append(')');
                    break;
                case 6: b.append('i').append(of(vats)).append('(').append(acts(depth + 1, upTo(1))).append(':').append(acts(depth + 1, upTo(1))).append(')'); break;
                default: b.append(now(4) ? "k" : "d" + of(vats));
            }
        }
        return b.toString();
    }

    private String factor(int depth) {
        if (now(5) && depth < 7) return "[" + terms(depth + 1) + "]";
        return now(4) ? "" + upTo(now(4) ? 99999 : 9) : "" + of(now(2) ? "abcABC" : "abcdefABCDEFslnk");
    }
    private String terms(int depth) {
        StringBuilder b = new StringBuilder(factor(depth));
        while (now(3)) b.append(of("+-*/%")).append(factor(depth));
        return b.toString();
    }
    private String piece(int depth) {
        if (now(6) && depth < 7) return "!" + piece(depth + 1);
        if (now(6) && depth < 7) return "(" + choice(depth + 1) + ")";
        return terms(depth) + of("<>=") + terms(depth);
    }
    private String choice(int depth) {
        StringBuilder b = new StringBuilder(piece(depth));
        while (now(3)) b.append(of("|&")).append(piece(depth));
        return b.toString();
    }

    private String spoilt(String s) {
        if (!now(6)) return s;
        StringBuilder b = new StringBuilder(s);
        int at = chance.nextInt(b.length());
        char c = of("abfgdtphwik():!&|[]<>=+-*/%0123456789ABFsln \u00e9\u0000");
        switch (chance.nextInt(4)) {
            case 0: b.setCharAt(at, c); break;
            case 1: b.insert(at, c); break;
            case 2: b.deleteCharAt(at); break;
            default: b.setLength(at + 1);
        }
        return b.length() == 0 ? "k" : b.toString();
    }

    private boolean textCall(boolean isRecipe) {
        String s = spoilt(isRecipe ? acts(0, upTo(5)) : choice(0));
        if (s.length() > 130) s = s.substring(0, 130);
        int w = index(3);
        int n = now(30) ? upTo(130) : s.length();
        if (!fed(s)) return false;
        return isRecipe ? tell("recipe(" + w + ", " + n + ")", town.recipe(w, n), oracle.recipe(w, n))
            : tell("spec(" + n + ")", town.spec(n), oracle.spec(n));
    }

    private boolean vatCall() {
        int v = index(6), k = now(2) ? 0 : index(4), b = now(3) ? upTo(100) : upTo(6), m = upTo(Math.min(b + 1, 30));
        return tell("vat(" + v + ", " + k + ", " + b + ", " + m + ")", town.vat(v, k, b, m) ? 1 : 0, oracle.vat(v, k, b, m) ? 1 : 0);
    }

    private boolean surveyCall() {
        int w = index(3), o = index(3), c = now(3) ? upTo(1009) : now(4) ? upTo(10) : oracle.run(0, 2000, 4), what = upTo(7) - 1;
        int vats = now(20) ? upTo(64) : 1 << upTo(5) | 1 << upTo(2), bound = now(30) ? 21 * upTo(1) : 1 + upTo(now(10) ? 19 : 4);
        String by = vats + ", " + bound + ", ";
        switch (chance.nextInt(3)) {
            case 0: return tell("proved(" + w + ", " + by + what + ")", town.proved(w, vats, bound, what), oracle.proved(w, vats, bound, what));
            case 1: return tell("alike(" + w + ", " + o + ", " + by + what + ")", town.alike(w, o, vats, bound, what), oracle.alike(w, o, vats, bound, what));
            default: return tell("fit(" + w + ", " + by + c + ", " + what + ")", town.fit(w, vats, bound, c, what), oracle.fit(w, vats, bound, c, what));
        }
    }

    private boolean smallVats() {
        boolean same = true;
        for (int v = 0; v < 6 && same; v++) {
            int k = now(2) ? 0 : upTo(3), b = v < 3 ? upTo(7) : upTo(1), m = upTo(b);
            same = tell("vat(" + v + ", " + k + ", " + b + ", " + m + ")", town.vat(v, k, b, m) ? 1 : 0, oracle.vat(v, k, b, m) ? 1 : 0);
        }
        return same;
    }

    private boolean shortestCall() {
        if (now(2) && !smallVats()) return false;
        StringBuilder target = new StringBuilder();
        long all = 1;
        for (int v = 0; v < 6; v++) {
            int b = town.count(20 + v);
            all *= b + 1;
            target.append((char) upTo(now(20) ? b + 1 : b));
        }
        if (all > 1500 && all <= 20000) return true;
        int what = now(2) ? -1 : index(8);
        if (!now(20) && !fed(target.toString())) return false;
        return tell("shortest(" + what + ")", town.shortest(what), oracle.shortest(what));
    }

    private boolean marketCall() {
        if (now(3)) {
            int bits = now(10) ? upTo(256) : town.count(5) & upTo(now(5) ? 255 : 63), what = upTo(Math.min(8, Integer.bitCount(bits) + 1)) - 1;
            return tell("order(" + bits + ", " + what + ")", town.order(bits, what), oracle.order(bits, what));
        }
        StringBuilder m = new StringBuilder();
        for (int v = 0; v < 6; v++) m.append((char) upTo(now(40) ? 255 : 12));
        int i = index(8), w = index(3), d = now(20) ? 10000 : upTo(60), p = now(20) ? 100 : upTo(9);
        if (!now(20) && !fed(m.toString())) return false;
        return tell("sum(" + i + ", " + w + ", " + d + ", " + p + ")", town.sum(i, w, d, p), oracle.sum(i, w, d, p));
    }

    private boolean checkCall() {
        StringBuilder m = new StringBuilder();
        for (int v = 0; v < 6; v++) m.append("\0\0").append((char) (now(40) ? 1 : 0)).append((char) (now(15) ? upTo(99) : town.count(10 + v)));
        int n = upTo(7);
        if (!now(10) && !fed(m.toString())) return false;
        return tell("check(" + n + ")", town.check(n), oracle.check(n));
    }

    private boolean runCall() {
        int w = index(3), limit = now(30) ? upTo(1) * 20001 : 1 + upTo(now(3) ? 19999 : 40), what = now(3) ? 10 + upTo(6) : upTo(6);
        if (now(4)) return tell("done(" + w + ", " + limit + ")", town.done(w, limit), oracle.done(w, limit));
        return tell("run(" + w + ", " + limit + ", " + what + ")", town.run(w, limit, what), oracle.run(w, limit, what));
    }

    private boolean oneCall() {
        int w = index(3);
        switch (chance.nextInt(16)) {
            case 0: case 1: return vatCall();
            case 2: case 3: return textCall(true);
            case 4: return textCall(false);
            case 5: case 6: case 7: return runCall();
            case 8: return surveyCall();
            case 9:
                int r = index(3);
                return tell("round(" + w + ", " + r + ")", town.round(w, r), oracle.round(w, r));
            case 10: return shortestCall();
            case 11:
                int limit = now(20) ? upTo(1) * 2001 : 1 + upTo(now(10) ? 600 : 60), s = index(4);
                return tell("slips(" + w + ", " + limit + ", " + s + ")", town.slips(w, limit, s), oracle.slips(w, limit, s));
            case 12: return marketCall() && marketCall() && marketCall();
            case 13: return checkCall();
            case 14:
                if (now(3)) { int x = upTo(65537) - 1; return tell("seed(" + x + ")", town.seed(x) ? 1 : 0, oracle.seed(x) ? 1 : 0); }
                int n = upTo(41);
                return tell("night(" + n + ")", town.night(n), oracle.night(n));
            default:
                if (now(2)) return tell("keep()", town.keep(), oracle.keep());
                return tell("undo()", town.undo() ? 1 : 0, oracle.undo() ? 1 : 0);
        }
    }
}
