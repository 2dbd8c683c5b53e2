/** Terms, ==== 2: BEGINNINGS, ROUNDS, THE SHORTEST, SLIPS; promises 8 (proved) to 13 (slips). */
final class EdgesOfProofs extends Edges {
    // With a SPEC that never holds, proved tells how many BEGINNINGS there are.
    private static DyeVats unprovable(DyeVats x) {
        spec(x, "1=2");
        return x;
    }

    @Says(promise = 0, words = "BEGINNINGS: of some VATS (bits, 1 to 3 of them)")
    static void oneToThreeVats() {
        DyeVats x = unprovable(new DyeVats());
        for (int bits = -1; bits <= 130; bits++) {
            int many = Integer.bitCount(bits);
            boolean good = bits > 0 && bits < 64 && many <= 3;
            due("proved of " + bits, x.proved(0, bits, 1, -1), good ? 1 << many : -3);
            due("alike of " + bits, x.alike(0, 1, bits, 1, -1), good ? 0 : -3);
            due("fit of " + bits, x.fit(0, bits, 1, 0, -1), good ? 1 << many : -3);
        }
        int[] bad = {LOW, LOW + 1, -64, 1 << 30, 256 + 1, HIGH};
        for (int bits : bad) {
            due("proved of " + bits, x.proved(0, bits, 1, -1), -3);
            due("alike of " + bits, x.alike(0, 1, bits, 1, -1), -3);
            due("fit of " + bits, x.fit(0, bits, 1, 0, -1), -3);
        }
    }

    @Says(promise = 0, words = "each MEASURE from 0 to a bound (1 to 20; of each as far as its BRIM)")
    static void boundFrom1To20AndAsFarAsTheBrim() {
        DyeVats x = unprovable(new DyeVats());
        int[] bounds = {LOW, -1, 0, 1, 2, 19, 20, 21, HIGH};
        int[] beginnings = {-3, -3, -3, 2, 3, 20, 21, -3, -3};
        for (int i = 0; i < bounds.length; i++) {
            due("proved, bound " + bounds[i], x.proved(0, 4, bounds[i], -1), beginnings[i]);
            due("fit, bound " + bounds[i], x.fit(0, 4, bounds[i], 0, -1), beginnings[i]);
            due("alike, bound " + bounds[i], x.alike(0, 0, 4, bounds[i], -1), beginnings[i] < 0 ? -3 : 0);
        }
        for (int brim = 0; brim <= 4; brim++) {
            x = unprovable(brims(0, 0, brim));
            due("bound 3, brim " + brim, x.proved(0, 4, 3, -1), Math.min(3, brim) + 1);
        }
        x = unprovable(brims(2, 0, 99));
        due("each as far as its own brim", x.proved(0, 7, 5, -1), 3 * 1 * 6);
        x = unprovable(new DyeVats());
        due("as many as can be", x.proved(0, 7, 20, -1), 21 * 21 * 21);
        due("of the last ones", x.proved(0, 56, 20, -1), 21 * 21 * 21);
        spec(x, "!a=20");
        due("the bound itself", x.proved(0, 1, 20, 0), 20);
        spec(x, "!a=0");
        due("from 0 on", x.proved(0, 1, 20, 0), 0);
        spec(x, "!(a=1&b=0&c=1)");
        due("a bound of 1: how many", x.proved(0, 7, 1, -1), 1);
        for (int v = 0; v < 3; v++) {
            due("a bound of 1: VAT " + v, x.proved(0, 7, 1, v), v == 1 ? 0 : 1);
        }
    }

    @Says(promise = 0, words = ", all others as they are;")
    static void allOthersAsTheyAre() {
        DyeVats x = holding(50, 51, 52, 53, 54, 55);
        spec(x, "b=51&c=52&d=53&e=54&f=55");
        due("others hold", x.proved(0, 1, 20, -1), 0);
        spec(x, "1=2");
        for (int v = 1; v < 6; v++) {
            due("the first one's " + v, x.proved(0, 1, 20, v), 50 + v);
        }
        due("the chosen one begins at 0", x.proved(0, 1, 20, 0), 0);
        x.vat(3, 0, 60, 60);
        due("as it is now", x.proved(0, 1, 20, 3), 60);
        due("it stays so", x.count(13), 60);
    }

    @Says(promise = 0, words = " in the order of their MEASURES, the lowest VAT first and slowest.")
    static void theLowestVatIsSlowest() {
        DyeVats x = new DyeVats();
        // Those for which it does not hold: (b 0, d 2) and (b 1, d 0): the first one has the lower b.
        spec(x, "!(b=0&d=2)&!(b=1&d=0)");
        due("how many", x.proved(0, 10, 2, -1), 2);
        due("b of the first", x.proved(0, 10, 2, 1), 0);
        due("d of the first", x.proved(0, 10, 2, 3), 2);
        spec(x, "!(a=1&c=0&f=2)&!(a=1&c=2&f=0)&!(a=2&c=0&f=0)");
        due("a of the first", x.proved(0, 37, 2, 0), 1);
        due("c of the first", x.proved(0, 37, 2, 2), 0);
        due("f of the first", x.proved(0, 37, 2, 5), 2);
        spec(x, "!(a=20&c=20&f=20)");
        due("the last of all", x.proved(0, 37, 20, -1), 1);
        due("a of the last", x.proved(0, 37, 20, 0), 20);
        due("f of the last", x.proved(0, 37, 20, 5), 20);
    }

    @Says(promise = 0, words = " PROVED: runs by 2000 STEPS from all BEGINNINGS for which the SPEC does not hold: how many; the first one.")
    static void provedBy2000Steps() {
        for (int steps = 1999; steps <= 2001; steps++) {
            DyeVats x = new DyeVats();
            Way.of(steps).lay(x, 0, "");
            spec(x, "k=1");
            due("ends after " + steps, x.proved(0, 32, 1, -1), steps <= 2000 ? 0 : 2);
            due("the first of them", x.proved(0, 32, 1, 5), steps <= 2000 ? -2 : 0);
            spec(x, "n=" + Math.min(steps, 2000));
            due("its STEPS", x.proved(0, 32, 1, -1), 0);
        }
    }

    @Says(promise = 0, words = " ALIKE are two RECIPES: BEGINNINGS from which the two end otherwise (by 2000 STEPS: how it ended, or some MEASURE is unlike): how many; the first one.")
    static void alikeBy2000Steps() {
        for (int steps = 1998; steps <= 2001; steps++) {
            DyeVats x = new DyeVats();
            Way way = Way.of(steps);
            way.lay(x, 0, "");
            way.lay(x, 1, "haa");
            due("the last STEP of " + (steps + 1) + " does nothing", x.alike(0, 1, 32, 1, -1), steps == 2000 ? 2 : 0);
            way.lay(x, 1, "df");
            due("the last STEP of " + (steps + 1) + " is a DIP", x.alike(0, 1, 32, 1, -1), steps <= 2000 ? 2 : 0);
        }
    }

    @Says(promise = 0, words = "(by 2000 STEPS: how it ended, or some MEASURE is unlike)")
    static void alikeInEachMeasureAndEnd() {
        for (int v = 0; v < 6; v++) {
            DyeVats x = new DyeVats();
            recipe(x, 0, "d" + (char) ('a' + v));
            recipe(x, 1, "haa");
            due("VAT " + v + " is unlike", x.alike(0, 1, 1, 3, -1), 4);
            recipe(x, 1, "d" + (char) ('a' + (v + 1) % 6));
            due("two are unlike", x.alike(0, 1, 1, 3, -1), 4);
        }
        DyeVats x = new DyeVats();
        recipe(x, 0, "haa");
        recipe(x, 1, "haak");
        due("how it ended", x.alike(0, 1, 1, 3, -1), 4);
        recipe(x, 1, "haahaa");
        due("STEPS do not matter", x.alike(0, 1, 1, 3, -1), 0);
        recipe(x, 1, "datada" + "ta");
        due("CLOTH and COLOUR do not matter", x.alike(0, 1, 1, 3, -1), 0);
        x.vat(1, 0, 0, 0);
        recipe(x, 1, "db");
        due("what is SPILT does not matter", x.alike(0, 1, 1, 3, -1), 0);
        recipe(x, 1, "ta");
        due("from 1 on it is unlike", x.alike(0, 1, 1, 3, -1), 3);
        due("the first one", x.alike(0, 1, 1, 3, 0), 1);
        due("an untold one", x.alike(0, 2, 1, 3, -1), 0);
    }

    @Says(promise = 0, words = " FIT: BEGINNINGS from which a RECIPE by 2000 STEPS has a told COLOUR: how many; the first one.")
    static void fitBy2000Steps() {
        for (int steps = 1999; steps <= 2001; steps++) {
            DyeVats x = new DyeVats();
            // The last STEP is a TAKING; VAT d is chosen, which nothing asks for.
            Way.of(steps - 1).lay(x, 0, "tf");
            x.vat(5, 0, 99, 1);
            int without = x.run(0, steps - 1, 4);
            int with = x.run(0, steps, 4);
            due("the last TAKING colours", without != with, true);
            due("with the last of " + steps, x.fit(0, 8, 1, with, -1), steps <= 2000 ? 2 : 0);
            due("without the last of " + steps, x.fit(0, 8, 1, without, -1), steps <= 2000 ? 0 : 2);
        }
    }

    @Says(promise = 8, words = "PROVED of VATS (bits), a bound, what NONE how many, else the MEASURE of VAT what at the first one's beginning; -2: none;")
    static void p08WhatFromNoneTo5() {
        DyeVats x = holding(7, 7, 7, 7, 7, 7);
        spec(x, "a<2");
        recipe(x, 0, "wa(ta)");
        due("how many", x.proved(0, 1, 3, -1), 2);
        due("MEASURE at the beginning, not at the end", x.proved(0, 1, 3, 0), 2);
        for (int what = 1; what < 6; what++) {
            due("MEASURE of " + what, x.proved(0, 1, 3, what), 7);
        }
        due("what 6", x.proved(0, 1, 3, 6), -3);
        due("what -2", x.proved(0, 1, 3, -2), -3);
        for (int what = 0; what < 6; what++) {
            due("none", x.proved(0, 1, 1, what), -2);
        }
        due("how many: none is 0", x.proved(0, 1, 1, -1), 0);
        due("none, though what is no such one", x.proved(0, 1, 1, 6), -3);
    }

    @Says(promise = 8, words = " -3: no such ones.")
    static void p08NoSuchOnes() {
        int[][] bad = {{-1, 1, 1, 0}, {3, 1, 1, 0}, {LOW, 1, 1, 0}, {HIGH, 1, 1, 0}, {0, 0, 1, 0}, {0, 64, 1, 0}, {0, 15, 1, 0}, {0, 1, 0, 0}, {0, 1, 21, 0}, {0, 1, 1, -2}, {0, 1, 1, 6}, {0, 1, 1, LOW}, {0, 1, 1, HIGH}};
        for (int[] b : bad) {
            unchanged("proved", Town::busy, x -> due("refused", x.proved(b[0], b[1], b[2], b[3]), -3));
        }
        unchanged("a good one", Town::busy, x -> due("taken", x.proved(2, 63 - 7, 2, -1) >= 0, true));
    }

    @Says(promise = 9, words = "ALIKE, what as above.")
    static void p09WhatAndNoSuchOnes() {
        DyeVats x = holding(7, 7, 7, 7, 7, 7);
        recipe(x, 0, "ta");
        recipe(x, 1, "haa");
        due("how many", x.alike(0, 1, 1, 3, -1), 3);
        due("the first one", x.alike(0, 1, 1, 3, 0), 1);
        for (int what = 1; what < 6; what++) {
            due("MEASURE of " + what, x.alike(0, 1, 1, 3, what), 7);
        }
        recipe(x, 2, "hbb");
        due("none", x.alike(2, 1, 1, 3, 0), -2);
        due("how many: none is 0", x.alike(2, 1, 1, 3, -1), 0);
        due("the last RECIPE", x.alike(2, 2, 1, 3, -1), 0);
        int[][] bad = {{-1, 0, 1, 1, 0}, {3, 0, 1, 1, 0}, {0, -1, 1, 1, 0}, {0, 3, 1, 1, 0}, {LOW, 0, 1, 1, 0}, {0, HIGH, 1, 1, 0}, {0, 1, 0, 1, 0}, {0, 1, 15, 1, 0}, {0, 1, 64, 1, 0}, {0, 1, 1, 0, 0}, {0, 1, 1, 21, 0}, {0, 1, 1, 1, -2}, {0, 1, 1, 1, 6}};
        for (int[] b : bad) {
            unchanged("alike", Town::busy, y -> due("refused", y.alike(b[0], b[1], b[2], b[3], b[4]), -3));
        }
        unchanged("a good one", Town::busy, y -> due("taken", y.alike(0, 1, 7, 2, -1) >= 0, true));
    }

    // tb ta ta: ((2 * 7 + 1) * 7 + 1) = 106; and on: each TAKING is chosen so that the last COLOUR is 1008.
    private static String actsToColour(int colour) {
        String[] rows = new String[1009];
        int[] queue = new int[1009];
        int queued = 1;
        rows[0] = "";
        for (int i = 0; i < queued; i++) {
            for (int v = 0; v < 6; v++) {
                int next = (7 * queue[i] + v + 1) % 1009;
                if (rows[next] == null) {
                    rows[next] = rows[queue[i]] + "t" + (char) ('a' + v);
                    queue[queued++] = next;
                }
            }
        }
        return rows[colour];
    }

    @Says(promise = 10, words = "FIT of a COLOUR (0 to 1008), what as above.")
    static void p10ColourFrom0To1008() {
        int[] colours = {0, 1, 1007, 1008};
        for (int colour : colours) {
            DyeVats x = holding(9, 9, 9, 9, 9, 9);
            recipe(x, 0, actsToColour(colour) + "haa");
            recipe(x, 1, "df");
            due("of a RUN", x.run(0, 99, 4), colour);
            x.vat(5, 0, 99, 50);
            due("how many of " + colour, x.fit(0, 1, 9, colour, -1) >= 1, true);
            for (int what = 1; what < 5; what++) {
                due("MEASURE of " + what, x.fit(0, 1, 9, colour, what), 9);
            }
            due("another COLOUR", x.fit(1, 1, 9, colour, -1), colour == 0 ? 10 : 0);
            due("another COLOUR", x.fit(1, 1, 9, colour, 5), colour == 0 ? 50 : -2);
        }
        DyeVats x = new DyeVats();
        recipe(x, 0, "wa(ta)");
        due("the first one", x.fit(0, 1, 9, 57, 0), 3);
        due("colour -1", x.fit(0, 1, 9, -1, -1), -3);
        due("colour 1009", x.fit(0, 1, 9, 1009, -1), -3);
        x.vat(0, 0, 99, 2);
        x.done(0, 99);
        due("a RUN's own COLOUR, from 0 on", x.fit(0, 1, 9, 57, 0), 3);
        int[][] bad = {{-1, 1, 1, 0, 0}, {3, 1, 1, 0, 0}, {0, 0, 1, 0, 0}, {0, 15, 1, 0, 0}, {0, 64, 1, 0, 0}, {0, 1, 0, 0, 0}, {0, 1, 21, 0, 0}, {0, 1, 1, -1, 0}, {0, 1, 1, 1009, 0}, {0, 1, 1, HIGH, 0}, {0, 1, 1, LOW, 0}, {0, 1, 1, 0, -2}, {0, 1, 1, 0, 6}};
        for (int[] b : bad) {
            unchanged("fit", Town::busy, y -> due("refused", y.fit(b[0], b[1], b[2], b[3], b[4]), -3));
        }
        unchanged("a good one", Town::busy, y -> due("taken", y.fit(0, 7, 2, 0, -1) >= 0, true));
    }

    private static void round(String text, DyeVats x, int ahead, int length) {
        due(text + " is read", recipe(x, 0, text) > 0, true);
        due(text + ": whether", x.round(0, 0), length > 0 ? 1 : 0);
        due(text + ": after how many", x.round(0, 1), length > 0 ? ahead : -2);
        due(text + ": how many", x.round(0, 2), length > 0 ? length : -2);
    }

    @Says(promise = 0, words = "A ROUND: a RUN from now on goes on for ever if it comes to the same place of the RECIPE with the same MEASURES again:")
    static void sameStandingMakesARound() {
        round("haahaa", holding(3), 0, 0);
        round("dbtbdbtb", holding(3), 0, 0);
        round("wa(tadb)", holding(99), 0, 0);
        round("wa(haa)k", holding(0), 0, 0);
        round("wa(k)", holding(1), 0, 0);
        round("wa(haa)", holding(1), 0, 2);
        round("wa(dbtb)", holding(1), 0, 3);
        DyeVats x = brims(9, 0);
        x.vat(0, 0, 9, 3);
        round("wa(db)", x, 0, 2);
        x.vat(1, 0, 3, 0);
        round("wa(db)", x, 6, 2);
        x.vat(1, 0, 3, 2);
        round("wa(db)", x, 2, 2);
        x.vat(0, 1, 9, 3);
        round("wa(db)", x, 0, 0);
        x.vat(0, 2, 9, 3);
        round("wa(db)", x, 0, 0);
        x = holding(5, 1);
        x.vat(0, 3, 99, 5);
        round("wa(haa)", x, 2, 2);
    }

    @Says(promise = 0, words = " after how many STEPS it is first at a standing to which it comes again, and how many STEPS the ROUND has;")
    static void aheadAndLength() {
        round("wa(wb(tb)wc(tc))", holding(1, 1, 0), 3, 3);
        round("hccwa(haa)", holding(1), 1, 2);
        round("wb(hab)", holding(3, 2), 4, 2);
        round("wa(pabpba)", holding(3, 2), 2, 3);
        round("wf(wa(tadb)wb(tbda))", holding(99, 0, 0, 0, 0, 1), 0, 597);
        round("dawf(wa(tadb)wb(tbda))", holding(98, 0, 0, 0, 0, 1), 1, 597);
    }

    @Says(promise = 0, words = "a place is where the next STEP is).")
    static void placeIsWhereTheNextStepIs() {
        // Behind the first ones and behind the others of an i the next STEP is the same.
        round("wa(ib(tb:haa)hcc)", holding(1, 1), 3, 4);
        // Behind a loop's last ACT the next STEP is the test, as it was at first.
        round("wa(hcc)", holding(1), 0, 2);
        round("wa(wa(hcc))", holding(1), 1, 2);
        // Behind an i that is a loop's last ACT, too.
        round("wa(ib(tb:db))", holding(1), 0, 6);
        round("wa(ib(tb:haa))", holding(1, 1), 3, 3);
        round("wa(ia(ib(tb:haa):k))", holding(1, 1), 4, 4);
    }

    // A way of just so many STEPS, then a loop for ever of two: its test comes again two STEPS later.
    private static DyeVats wayToLoop(int steps) {
        DyeVats x = new DyeVats();
        x.vat(5, 0, 1, 1);
        Way.of(steps).lay(x, 0, "wf(hff)");
        return x;
    }

    @Says(promise = 0, words = "(it is looked for within 20000 STEPS;")
    static void roundWithin20000Steps() {
        for (int steps = 19999; steps <= 20001; steps++) {
            boolean in = steps <= 20000;
            DyeVats x = wayToLoop(steps - 2);
            due("comes again after " + steps, x.round(0, 0), in ? 1 : 2);
            due("comes again after " + steps + ": ahead", x.round(0, 1), in ? steps - 2 : -2);
            due("comes again after " + steps + ": length", x.round(0, 2), in ? 2 : -2);
            x = new DyeVats();
            Way.of(steps).lay(x, 0, "");
            due("ends after " + steps, x.round(0, 0), in ? 0 : 2);
            due("ends after " + steps + ": ahead", x.round(0, 1), -2);
            x = new DyeVats();
            Way.of(steps - 1).lay(x, 0, "kda");
            due("ends by k after " + steps, x.round(0, 0), in ? 0 : 2);
        }
    }

    // A ROUND of just so many STEPS from the beginning on; DIPS at a full VAT fill up what is missing.
    private static DyeVats wheel(int steps) {
        for (int n = 1; n <= 99; n++) {
            for (int b = 1; b <= 99; b++) {
                int rest = steps - n * (6 * b + 8) - 3;
                if (rest >= 0 && rest <= 9) {
                    DyeVats x = holding(n, b);
                    x.vat(5, 0, 1, 1);
                    recipe(x, 0, "wf(wa(tadewb(tbdc)wc(tcdb))we(teda)" + many("df", rest) + ")");
                    return x;
                }
            }
        }
        throw new IllegalArgumentException("no wheel of " + steps);
    }

    @Says(promise = 11, words = "A ROUND, what 0 whether there is one (1; 0: it ends; 2: neither within 20000), 1 after how many STEPS, 2 how many STEPS it has (1, 2: -2: there is none);")
    static void p11LongestRound() {
        for (int steps = 19999; steps <= 20001; steps++) {
            boolean in = steps <= 20000;
            DyeVats x = wheel(steps);
            due("a wheel of " + steps, x.round(0, 0), in ? 1 : 2);
            due("a wheel of " + steps + ": ahead", x.round(0, 1), in ? 0 : -2);
            due("a wheel of " + steps + ": length", x.round(0, 2), in ? steps : -2);
        }
        DyeVats x = new DyeVats();
        due("it ends", x.round(0, 0), 0);
        due("it ends: ahead", x.round(0, 1), -2);
        due("it ends: length", x.round(0, 2), -2);
        x = holding(1);
        recipe(x, 2, "wa(haa)");
        due("the last RECIPE", x.round(2, 0), 1);
        due("ahead 0 is an answer", x.round(2, 1), 0);
    }

    @Says(promise = 11, words = " NONE: no such ones.")
    static void p11NoSuchOnes() {
        int[][] bad = {{-1, 0}, {3, 0}, {LOW, 0}, {HIGH, 0}, {0, -1}, {0, 3}, {0, LOW}, {0, HIGH}};
        for (int[] b : bad) {
            unchanged("round", Town::busy, x -> due("refused", x.round(b[0], b[1]), -1));
        }
        for (int what = 0; what < 3; what++) {
            int of = what;
            unchanged("a good one", Town::busy, x -> due("taken", x.round(0, of) != -1, true));
        }
    }

    @Says(promise = 0, words = "THE SHORTEST row of ACTS (d, t, p, h; no tests) from now on after which VATS have told MEASURES, KINDS working as in a RUN, each an ACT and a STEP: how many;")
    static void shortestFromNowOn() {
        DyeVats x = brims(9, 9);
        due("none needed", shortest(x, -1, 0, 0, 0, 0, 0, 0), 0);
        due("one", shortest(x, -1, 1, 0, 0, 0, 0, 0), 1);
        x.vat(0, 0, 9, 9);
        due("from now on", shortest(x, -1, 1, 0, 0, 0, 0, 0) > 1, true);
        due("as it is", shortest(x, -1, 9, 0, 0, 0, 0, 0), 0);
        x.vat(0, 1, 9, 1);
        due("a leak is no ACT, but works behind one", shortest(x, -1, 0, 0, 0, 0, 0, 0), 1);
        due("by d c at its BRIM", shortest(x, 0, 0, 0, 0, 0, 0, 0), 2);
        due("by d b", shortest(x, 0, 0, 1, 0, 0, 0, 0), 1);
        due("a leaking one is filled by a pouring alone", shortest(x, -1, 2, 0, 0, 0, 0, 0), 4);
        due("but not to its BRIM", shortest(x, -1, 9, 0, 0, 0, 0, 0), -2);
        x.vat(0, 3, 9, 2);
        due("joined: any ACT", shortest(x, -1, 1, 1, 0, 0, 0, 0), 1);
        x.vat(0, 3, 9, 1);
        due("one more is not two", shortest(x, -1, 0, 1, 0, 0, 0, 0), 1);
        x.vat(0, 2, 9, 5);
        due("blind ones are poured", shortest(x, 0, 0, 5, 0, 0, 0, 0), 13);
    }

    // The row of one ACT between two standings, with BRIMS of 4.
    private static int act(int[] from, int[] to) {
        DyeVats x = brims(4, 4, 4, 4, 4, 4);
        for (int v = 0; v < 6; v++) {
            x.vat(v, 0, 4, from[v]);
        }
        due("one ACT", shortest(x, -1, to), 1);
        return shortest(x, 0, to);
    }

    @Says(promise = 0, words = " of like ones the first by its ACTS, in the order d a to f, t a to f, p aa ab .. ff, h aa .. ff (ACTS 0 to 83;")
    static void actsFrom0To83() {
        for (int v = 0; v < 6; v++) {
            int[] from = {1, 1, 1, 1, 1, 1};
            int[] to = from.clone();
            to[v]++;
            due("d " + v, act(from, to), v);
            to[v] -= 2;
            due("t " + v, act(from, to), 6 + v);
            for (int u = 0; u < 6; u++) {
                if (u != v) {
                    int[] full = {1, 1, 1, 1, 1, 1};
                    full[v] = 3;
                    to = full.clone();
                    to[v] = 0;
                    to[u] = 4;
                    due("p " + v + u, act(full, to), 12 + 6 * v + u);
                    full[v] = 4;
                    to[v] = 2;
                    to[u] = 3;
                    due("h " + v + u, act(full, to), 48 + 6 * v + u);
                }
            }
        }
    }

    @Says(promise = 0, words = " of like ones the first by its ACTS,")
    static void ofLikeOnesTheFirst() {
        DyeVats x = brims(9, 9);
        x.vat(0, 0, 9, 1);
        due("p ab as well as h: p is first", shortest(x, 0, 0, 1, 0, 0, 0, 0), 13);
        x.vat(0, 0, 9, 0);
        due("d a d b ahead of d b d a", shortest(x, 0, 1, 1, 0, 0, 0, 0), 0);
        due("then d b", shortest(x, 1, 1, 1, 0, 0, 0, 0), 1);
        // All ACTS but p aa and its like change something, and one goes over behind it.
        x = brims(4, 2, 2, 2, 2, 2);
        for (int v = 1; v < 6; v++) {
            x.vat(v, 0, 2, 1);
        }
        x.vat(0, 3, 4, 3);
        due("p aa", shortest(x, 0, 2, 2, 1, 1, 1, 1), 12);
        // d b, at its BRIM, changes nothing, but t a does.
        x = brims(9);
        x.vat(0, 0, 9, 1);
        due("t a behind a DIP that is SPILT", shortest(x, 0, 0, 0, 0, 0, 0, 0), 6);
        x = brims(2, 2);
        x.vat(0, 0, 2, 2);
        due("h ab alone", shortest(x, 0, 1, 1, 0, 0, 0, 0), 49);
        due("d b d b, not p ab d a d a", shortest(x, 0, 2, 2, 0, 0, 0, 0), 1);
    }

    @Says(promise = 0, words = " 100 at most are gone through;")
    static void atMost100Acts() {
        DyeVats x = brims(99, 2);
        due("99", shortest(x, -1, 99, 0, 0, 0, 0, 0), 99);
        due("100", shortest(x, -1, 99, 1, 0, 0, 0, 0), 100);
        due("101", shortest(x, -1, 99, 2, 0, 0, 0, 0), -2);
        due("the last of 99", shortest(x, 98, 99, 0, 0, 0, 0, 0), 0);
        due("behind the last of 99", shortest(x, 99, 99, 0, 0, 0, 0, 0), -4);
        due("the last of 100", shortest(x, 99, 99, 1, 0, 0, 0, 0), 1);
        due("of 101 none", shortest(x, 0, 99, 2, 0, 0, 0, 0), -2);
    }

    @Says(promise = 0, words = " BRIMS and one more of all VATS, times one another, may be 20000 at most).")
    static void atMost20000Standings() {
        due("100 * 100 * 2", shortest(brims(99, 99, 1), -1, 1, 0, 0, 0, 0, 0), 1);
        due("100 * 100 * 3", shortest(brims(99, 99, 2), -1, 1, 0, 0, 0, 0, 0), -3);
        due("1 * 1 * 1 * 2 * 100 * 100", shortest(brims(0, 0, 0, 1, 99, 99), -1, 0, 0, 0, 0, 0, 1), 1);
        due("81 * 13 * 19 = 20007", shortest(brims(80, 12, 18), -1, 1, 0, 0, 0, 0, 0), -3);
        due("80 * 25 * 10 = 20000", shortest(brims(79, 24, 9), -1, 1, 0, 0, 0, 0, 0), 1);
        DyeVats x = brims(99, 99, 1);
        x.vat(0, 0, 99, 99);
        x.vat(1, 0, 99, 99);
        due("the last standing of 20000", shortest(x, 0, 99, 99, 1, 0, 0, 0), 2);
        due("68 * 98 * 3 = 19992", shortest(brims(67, 97, 2), -1, 1, 0, 0, 0, 0, 0), 1);
        due("1", shortest(brims(), -1, 0, 0, 0, 0, 0, 0), 0);
        due("1 * 10 * 1 * 10", shortest(brims(0, 9, 0, 9), -1, 0, 3, 0, 2, 0, 0), 5);
        due("as at first", shortest(new DyeVats(), -1, 0, 0, 0, 0, 0, 0), -3);
        due("64 * 64 * 64 * 64 * 64 * 4: 32 bits around", shortest(brims(63, 63, 63, 63, 63, 3), -1, 0, 0, 0, 0, 0, 0), -3);
        due("32 bits around to few", shortest(brims(95, 95, 95, 63, 63, 31), -1, 0, 0, 0, 0, 0, 0), -3);
    }

    @Says(promise = 12, words = "THE SHORTEST by the first 6 bytes of the tape (MEASURES; empty then)")
    static void p12FirstSixBytes() {
        DyeVats x = brims(1, 1, 1, 1, 1, 1);
        for (int v = 0; v < 6; v++) {
            int[] to = new int[6];
            to[v] = 1;
            due("byte " + v, shortest(x, 0, to), v);
            due("empty then", x.count(3), 0);
        }
        x.feed(0, 0x0000ffff, -1, -1, -1);
        due("the seventh byte is no MEASURE", x.shortest(-1), 0);
        fed(x, bytes(0, 0, 0, 0, 0, 1) + many("a", 100));
        due("the first ones of many", x.shortest(0), 5);
        due("all are gone", x.count(3), 0);
    }

    @Says(promise = 12, words = ", what NONE how many, else the ACT at place what (0 to 99);")
    static void p12WhatFromNoneTo99() {
        DyeVats x = brims(99, 1);
        due("how many", shortest(x, -1, 99, 1, 0, 0, 0, 0), 100);
        due("place 0", shortest(x, 0, 99, 1, 0, 0, 0, 0), 0);
        due("place 99", shortest(x, 99, 99, 1, 0, 0, 0, 0), 1);
        fed(x, bytes(99, 1, 0, 0, 0, 0));
        int[] bad = {LOW, -2, 100, 101, HIGH};
        for (int what : bad) {
            due("what " + what, x.shortest(what), -4);
            due("the tape stays", x.count(3), 20);
        }
        due("it is still there", x.shortest(99), 1);
    }

    @Says(promise = 12, words = " -2: there is none, none within 100;")
    static void p12ThereIsNone() {
        DyeVats x = brims(9);
        x.vat(0, 1, 9, 3);
        due("there is none", shortest(x, -1, 4, 0, 0, 0, 0, 0), -2);
        due("there is none: an ACT of it", shortest(x, 99, 4, 0, 0, 0, 0, 0), -2);
        due("the tape is empty", x.count(3), 0);
        x = brims(99, 2);
        due("none within 100", shortest(x, -1, 99, 2, 0, 0, 0, 0), -2);
        due("none within 100: an ACT of it", shortest(x, 0, 99, 2, 0, 0, 0, 0), -2);
        onlyEmpties("none", EdgesOfProofs::fewStandings, y -> due("none", y.shortest(-1), -2));
    }

    // As busy as can be with few standings; VAT b leaks, so that the tape's MEASURES are not come to.
    private static DyeVats fewStandings() {
        DyeVats x = busyWithoutTape();
        int[] kinds = {0, 1, 0, 3, 0, 0};
        for (int v = 0; v < 6; v++) {
            x.vat(v, kinds[v], 3, v == 1 ? 0 : 1);
        }
        fed(x, bytes(1, 3, 1, 1, 1, 1));
        return x;
    }

    @Says(promise = 12, words = " -3: BRIMS too many, no such MEASURES;")
    static void p12NoSuchMeasures() {
        for (int v = 0; v < 6; v++) {
            DyeVats x = brims(3, 3, 3, 3, 3, 3);
            int[] to = new int[6];
            to[v] = 3;
            due("at the BRIM", shortest(x, -1, to) > 0, true);
            to[v] = 4;
            due("above the BRIM", shortest(x, -1, to), -3);
            due("the tape is empty", x.count(3), 0);
            to[v] = 128;
            due("128", shortest(x, -1, to), -3);
            to[v] = 255;
            due("255", shortest(x, -1, to), -3);
        }
        onlyEmpties("no such MEASURES", EdgesOfProofs::tooHigh, x -> due("too high", x.shortest(-1), -3));
        onlyEmpties("BRIMS too many", Town::busy, x -> due("too many", x.shortest(5), -3));
    }

    private static DyeVats tooHigh() {
        DyeVats x = fewStandings();
        x.check(0);
        fed(x, bytes(1, 3, 1, 4, 1, 1));
        return x;
    }

    @Says(promise = 12, words = " -4: no such what, it has not so many (the tape stays), no such place.")
    static void p12NoSuchWhatOrPlace() {
        DyeVats x = brims(9, 9);
        due("no tape", x.shortest(-1), -4);
        due("place 1 of 2", shortest(x, 1, 1, 1, 0, 0, 0, 0), 1);
        due("place 2 of 2", shortest(x, 2, 1, 1, 0, 0, 0, 0), -4);
        due("that empties the tape", x.count(3), 0);
        due("place 0 of none", shortest(x, 0, 0, 0, 0, 0, 0, 0), -4);
        due("place 99 of none", shortest(x, 99, 0, 0, 0, 0, 0, 0), -4);
        int[] bad = {LOW, -2, 100, HIGH};
        for (int what : bad) {
            unchanged("shortest(" + what + ")", Town::busy, y -> due("no such what", y.shortest(what), -4));
            unchanged("shortest(" + what + ")", Town::busyWithoutTape, y -> due("no such what", y.shortest(what), -4));
        }
        unchanged("no tape", Town::busyWithoutTape, y -> due("not so many", y.shortest(-1), -4));
        unchanged("no tape", Town::busyWithoutTape, y -> due("not so many", y.shortest(0), -4));
        onlyEmpties("no such place", EdgesOfProofs::near, y -> due("no such place", y.shortest(1), -4));
        onlyEmpties("a place", EdgesOfProofs::near, y -> due("the place", y.shortest(0), 0));
        onlyEmpties("how many", EdgesOfProofs::near, y -> due("how many", y.shortest(-1), 1));
    }

    private static DyeVats near() {
        DyeVats x = fewStandings();
        x.check(0);
        fed(x, bytes(2, 0, 1, 1, 1, 1));
        return x;
    }

    private static void slips(String what, DyeVats x, int limit, int out, int twice, int firstOut, int firstTwice) {
        due(what + ": left out", x.slips(0, limit, 0), out);
        due(what + ": done twice", x.slips(0, limit, 1), twice);
        due(what + ": first left out", x.slips(0, limit, 2), firstOut);
        due(what + ": first done twice", x.slips(0, limit, 3), firstTwice);
    }

    private static DyeVats slipping(String text, String spec, int... measures) {
        DyeVats x = holding(measures);
        recipe(x, 0, text);
        due(spec + " is read", spec(x, spec), 1);
        return x;
    }

    @Says(promise = 0, words = "A SLIP: in a RUN by a LIMIT one STEP that is a DIP, a TAKING, a pouring is left out")
    static void slipOfDipTakingPouring() {
        String always = "1=1";
        slips("a DIP", slipping("da", always), 9, 1, 1, 1, 1);
        slips("a TAKING", slipping("ta", always), 9, 1, 1, 1, 1);
        slips("a pouring", slipping("pab", always), 9, 1, 1, 1, 1);
        slips("a pouring of half", slipping("hab", always), 9, 1, 1, 1, 1);
        slips("k", slipping("k", always), 9, 0, 0, -2, -2);
        slips("a test", slipping("wa(da)", always), 9, 0, 0, -2, -2);
        slips("behind two tests", slipping("wa(k)ib(k:ib(k:da))", always), 9, 1, 1, 4, 4);
        slips("behind k", slipping("kda", always), 9, 0, 0, -2, -2);
        slips("by a LIMIT of 1", slipping("dadadada", always), 1, 1, 1, 1, 1);
        slips("by a LIMIT of 3", slipping("dadadada", always), 3, 3, 3, 1, 1);
        slips("by a LIMIT of 4", slipping("dadadada", always), 4, 4, 4, 1, 1);
        slips("by a LIMIT of 5", slipping("dadadada", always), 5, 4, 4, 1, 1);
        slips("a LIMIT ahead of it", slipping("wa(k)da", always), 1, 0, 0, -2, -2);
    }

    @Says(promise = 0, words = "(or is done twice; but the one STEP counts once, KINDS work once behind it)")
    static void slipCountsOnceAndKindsWorkOnce() {
        slips("STEPS are as many", slipping("dadbdc", "n=3"), 9, 3, 3, 1, 1);
        slips("at the LIMIT as well", slipping("dadbdc", "n=2&k=3"), 2, 2, 2, 1, 1);
        slips("not one more than LIMIT", slipping("dadbdc", "k=1"), 3, 3, 3, 1, 1);
        DyeVats x = slipping("dbdc", "D=5");
        x.vat(3, 1, 9, 7);
        slips("leaks once", x, 9, 2, 2, 1, 1);
        slips("done twice is two", slipping("dadb", "A+B=3"), 9, 0, 2, -2, 1);
        slips("left out is none", slipping("dadb", "A+B=1"), 9, 2, 0, 1, -2);
        slips("taken twice", slipping("ta", "l=2&A=0", 2), 9, 0, 1, -2, 1);
        slips("taken twice of one", slipping("ta", "l=1&A=0", 1), 9, 0, 1, -2, 1);
        slips("halved twice", slipping("hab", "A=2&B=6", 8), 9, 0, 1, -2, 1);
        x = slipping("da", "s=2");
        x.vat(0, 0, 3, 3);
        slips("spilt twice", x, 9, 0, 1, -2, 1);
    }

    @Says(promise = 0, words = ": it is not FELT if the SPEC holds all the same: how many such STEPS there are (left out; done twice), the first one (from 1 on).")
    static void slipNotFeltIfTheSpecHolds() {
        slips("none is felt", slipping("datapab", "1=1"), 9, 3, 3, 1, 1);
        slips("all are felt", slipping("datapab", "1=2"), 9, 0, 0, -2, -2);
        // da ta pab from 3 2: b is to have all: p twice is not felt, all else is
        slips("the last alone", slipping("datapab", "B=a+b", 3, 2), 9, 0, 1, -2, 3);
        slips("the first alone", slipping("dadbdc", "A=2"), 9, 0, 1, -2, 1);
        slips("tests are STEPS, too", slipping("ia(k:da)db", "B=2"), 9, 0, 1, -2, 3);
        slips("a SPEC that the RUN itself does not keep", slipping("dadb", "A=0"), 9, 1, 0, 1, -2);
        // wa(ta) from 2: a TAKING that is left out is made up for; one that is done twice, too
        slips("a loop", slipping("wa(ta)", "A=0&k=1", 2), 99, 2, 2, 2, 2);
        slips("a loop by a LIMIT", slipping("wa(ta)", "A=0&k=1", 2), 5, 0, 2, -2, 2);
    }

    @Says(promise = 13, words = "SLIPS in a RUN by a LIMIT (1 to 2000), what 0 how many left out, 1 how many done twice are not FELT, 2, 3 the first of these (-2: none);")
    static void p13LimitFrom1To2000() {
        DyeVats x = slipping("wa(hff)", "k=3", 1);
        int[] limits = {LOW, -1, 0, 1, 2, 3, 1999, 2000, 2001, HIGH};
        int[] many = {-1, -1, -1, 0, 1, 1, 999, 1000, -1, -1};
        for (int i = 0; i < limits.length; i++) {
            due("left out by " + limits[i], x.slips(0, limits[i], 0), many[i]);
            due("done twice by " + limits[i], x.slips(0, limits[i], 1), many[i]);
        }
        due("the first by 2000", x.slips(0, 2000, 2), 2);
        due("the first by 1", x.slips(0, 1, 3), -2);
        spec(x, "n=2000");
        due("2000 STEPS", x.slips(0, 2000, 0), 1000);
        x = new DyeVats();
        Way.of(1999).lay(x, 0, "df");
        spec(x, "F=2");
        due("STEP 2000 alone, done twice", x.slips(0, 2000, 1), 1);
        due("STEP 2000 is the first", x.slips(0, 2000, 3), 2000);
        Way.of(2000).lay(x, 0, "df");
        due("STEP 2001 is not come to", x.slips(0, 2000, 3), -2);
    }

    @Says(promise = 13, words = " NONE: no such ones.")
    static void p13NoSuchOnes() {
        int[][] bad = {{-1, 1, 0}, {3, 1, 0}, {LOW, 1, 0}, {HIGH, 1, 0}, {0, 0, 0}, {0, -1, 0}, {0, 2001, 0}, {0, 1, -1}, {0, 1, 4}, {0, 1, LOW}, {0, 1, HIGH}};
        for (int[] b : bad) {
            unchanged("slips", Town::busy, x -> due("refused", x.slips(b[0], b[1], b[2]), -1));
        }
        for (int what = 0; what < 4; what++) {
            int of = what;
            unchanged("a good one", Town::busy, x -> due("taken", x.slips(0, 100, of) != -1, true));
        }
    }
}
