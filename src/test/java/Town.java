import java.util.function.Consumer;
import java.util.function.Supplier;

/** What tests share: texts on the tape, towns to begin with, and all that can be seen of a town. */
class Town {
    static final int LOW = Integer.MIN_VALUE;
    static final int HIGH = Integer.MAX_VALUE;

    // The tape is filled up with the letter a behind the text.
    static void fed(DyeVats x, String s) {
        for (int i = 0; i < s.length(); i += 20) {
            int[] n = new int[5];
            for (int j = 0; j < 20; j++) {
                n[j / 4] = n[j / 4] << 8 | (i + j < s.length() ? s.charAt(i + j) : 'a');
            }
            x.feed(n[0], n[1], n[2], n[3], n[4]);
        }
    }

    static String bytes(int... b) {
        StringBuilder s = new StringBuilder();
        for (int i : b) {
            s.append((char) i);
        }
        return s.toString();
    }

    static String many(String s, int n) {
        return s.repeat(n);
    }

    static int recipe(DyeVats x, int w, String s) {
        fed(x, s);
        return x.recipe(w, s.length());
    }

    static int spec(DyeVats x, String s) {
        fed(x, s);
        return x.spec(s.length());
    }

    static int shortest(DyeVats x, int what, int... measures) {
        fed(x, bytes(measures));
        return x.shortest(what);
    }

    static int sum(DyeVats x, int i, int w, int due, int price, int... measures) {
        fed(x, bytes(measures));
        return x.sum(i, w, due, price);
    }

    /** Plain VATS from a on with these MEASURES, all BRIMS 99. */
    static DyeVats holding(int... measures) {
        DyeVats x = new DyeVats();
        for (int v = 0; v < measures.length; v++) {
            x.vat(v, 0, 99, measures[v]);
        }
        return x;
    }

    /** VATS from a on with these BRIMS, all empty; the others have no room. */
    static DyeVats brims(int... brims) {
        DyeVats x = new DyeVats();
        for (int v = 0; v < 6; v++) {
            x.vat(v, 0, v < brims.length ? brims[v] : 0, 0);
        }
        return x;
    }

    /** The recipe is run alone in a town that holds these MEASURES: what the RUN answers. */
    static int ran(String text, int limit, int what, int... measures) {
        DyeVats x = holding(measures);
        recipe(x, 0, text);
        return x.run(0, limit, what);
    }

    static final String WAITING = "dadbtcpabhbawb(tb)ia(dc:k)dddedf";

    /** A town in which each thing is other than at first, with a RECIPE's text that waits on the tape. */
    static DyeVats busy() {
        DyeVats x = new DyeVats();
        for (int v = 0; v < 6; v++) {
            x.vat(v, v % 4, 4 + v, 4);
        }
        recipe(x, 0, "wa(tadb)hefdc");
        recipe(x, 1, "ib(tb:da)k");
        spec(x, "B>a|s=1|l>4");
        sum(x, 0, 0, 3, 2, 3, 1, 0, 0, 0, 0);
        sum(x, 3, 1, 1, 7, 0, 2, 1, 0, 0, 9);
        x.done(0, 7);
        x.seed(4711);
        x.night(3);
        x.keep();
        x.done(0, 9);
        x.night(2);
        fed(x, WAITING);
        return x;
    }

    static DyeVats busyWithoutTape() {
        DyeVats x = busy();
        x.check(0);
        return x;
    }

    /** All that can be seen of the town behind a call, each look in a town of its own where it changes something. */
    static String seen(Supplier<DyeVats> make, Consumer<DyeVats> call) {
        StringBuilder all = new StringBuilder();
        DyeVats x = make.get();
        call.accept(x);
        counts(x, all);
        runs(x, all);
        orders(x, all);
        all.append(" undone ").append(x.undo());
        counts(x, all);
        x = make.get();
        call.accept(x);
        int waiting = x.count(3);
        all.append(" tape ").append(x.recipe(2, Math.min(waiting, WAITING.length())));
        for (int v = 0; v < 6; v++) {
            all.append(' ').append(x.run(2, 500, 10 + v));
        }
        return all.toString();
    }

    private static void counts(DyeVats x, StringBuilder all) {
        for (int what = 0; what < 43; what++) {
            all.append(' ').append(x.count(what));
        }
    }

    private static void runs(DyeVats x, StringBuilder all) {
        for (int w = 0; w < 3; w++) {
            for (int what = 0; what < 16; what++) {
                all.append(' ').append(x.run(w, 5, what)).append(' ').append(x.run(w, 500, what));
            }
        }
    }

    private static void orders(DyeVats x, StringBuilder all) {
        int told = x.count(5);
        for (int what = -1; what < 8; what++) {
            all.append(' ').append(x.order(told, what));
        }
        for (int i = 0; i < 8; i++) {
            all.append(' ').append(x.order(1 << i, -1));
        }
    }
}
