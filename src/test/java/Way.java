/**
 * A RECIPE that has just so many STEPS, with the MEASURES of a, b that it begins with (c to f empty or as they are):
 * a times the whole of b goes over into c and back, then VAT e is dipped for the rest. VATS d and f are left alone.
 */
final class Way {
    private static final int DIPS_MOST = 25;
    final int a;
    final int b;
    final String text;

    private Way(int a, int b, int dips) {
        this.a = a;
        this.b = b;
        text = "wa(tawb(tbdc)wc(tcdb))" + "de".repeat(dips);
    }

    static Way of(int steps) {
        for (int a = 1; a <= 99; a++) {
            for (int b = 1; b <= 99; b++) {
                int dips = steps - (a * (2 + 2 * (3 * b + 1)) + 1);
                if (dips >= 0 && dips <= DIPS_MOST) {
                    return new Way(a, b, dips);
                }
            }
        }
        throw new IllegalArgumentException("no way of " + steps);
    }

    /** RECIPE w is this way and what goes behind it; the VATS are as it begins. */
    void lay(DyeVats x, int w, String behind) {
        x.vat(0, 0, 99, a);
        x.vat(1, 0, 99, b);
        Town.recipe(x, w, text + behind);
    }
}
