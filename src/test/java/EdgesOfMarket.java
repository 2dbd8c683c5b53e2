/** Terms, ==== 3: SUMS of a MARKET DAY and THE ORDER; promises 14 (sum) and 15 (order). */
final class EdgesOfMarket extends Edges {
    // SUM i takes so many STEPS: RECIPE 2 dips, as often as told, and only VAT a is asked.
    private static DyeVats market(int... odd) {
        DyeVats x = new DyeVats();
        recipe(x, 2, "wa(ta)");
        for (int i = 0; i < odd.length; i++) {
            sum(x, i, 2, 9999, 0, (odd[i] - 1) / 2, 0, 0, 0, 0, 0);
        }
        return x;
    }

    private static void again(DyeVats x, int i, int steps, int due, int price) {
        due("STEPS of " + i, sum(x, i, 2, due, price, (steps - 1) / 2, 0, 0, 0, 0, 0), steps);
    }

    private static void row(String what, DyeVats x, int sums, int prices, int... places) {
        due(what + ": PRICES", x.order(sums, -1), prices);
        for (int i = 0; i < places.length; i++) {
            due(what + ": place " + i, x.order(sums, i), places[i]);
        }
        due(what + ": no such place", x.order(sums, places.length), -1);
    }

    @Says(promise = 0, words = "SUMS 0 to 7 of a MARKET DAY:")
    static void sumsFrom0To7() {
        for (int i = -1; i <= 8; i++) {
            DyeVats x = new DyeVats();
            boolean is = i >= 0 && i <= 7;
            due("SUM " + i, sum(x, i, 0, 0, 0, 0, 0, 0, 0, 0, 0), is ? 0 : -1);
            due("told", x.count(5), is ? 1 << i : 0);
        }
    }

    @Says(promise = 0, words = " a RECIPE with its six MEASURES at the beginning (held to BRIMS),")
    static void measuresHeldToBrims() {
        for (int brim = 3; brim <= 6; brim++) {
            for (int v = 0; v < 6; v++) {
                DyeVats x = new DyeVats();
                x.vat(v, 0, brim, 1);
                char letter = (char) ('a' + v);
                recipe(x, 0, "w" + letter + "(t" + letter + ")");
                int[] m = new int[6];
                m[v] = 5;
                due("5 of " + brim, sum(x, 0, 0, 0, 1, m), 2 * Math.min(5, brim) + 1);
                due("its PRICE", x.order(1, -1), 2 * Math.min(5, brim) + 1);
                due("the VAT itself stays", x.count(10 + v), 1);
                x.vat(v, 0, 4, 0);
                due("BRIMS as they are when it is asked", x.order(1, -1), 9);
                x.vat(v, 0, 99, 0);
                due("the MEASURE itself is not cut", x.order(1, -1), 11);
            }
        }
    }

    @Says(promise = 0, words = " a time when it is due (0 to 9999), a PRICE (0 to 99) for each time it is late;")
    static void lateByNoneOneAndMore() {
        int[] dues = {LOW, -1, 0, 1, 9998, 9999, 10000, HIGH};
        for (int at : dues) {
            DyeVats x = new DyeVats();
            due("due " + at, sum(x, 0, 0, at, 0, 0, 0, 0, 0, 0, 0), at >= 0 && at <= 9999 ? 0 : -1);
        }
        int[] prices = {LOW, -1, 0, 1, 98, 99, 100, HIGH};
        for (int price : prices) {
            DyeVats x = new DyeVats();
            due("price " + price, sum(x, 0, 0, 0, price, 0, 0, 0, 0, 0, 0), price >= 0 && price <= 99 ? 0 : -1);
        }
        for (int late = -1; late <= 2; late++) {
            DyeVats x = market(7);
            again(x, 0, 7, 7 - late, 99);
            due("late by " + late, x.order(1, -1), 99 * Math.max(0, late));
            again(x, 0, 7, 7 - late, 1);
            due("late by " + late, x.order(1, -1), Math.max(0, late));
            again(x, 0, 7, 7 - late, 0);
            due("late by " + late + " for nothing", x.order(1, -1), 0);
        }
    }

    @Says(promise = 0, words = " it takes as many STEPS as a RUN from these has then (by 1000;")
    static void stepsBy1000() {
        for (int steps = 999; steps <= 1001; steps++) {
            Way way = Way.of(steps);
            DyeVats x = new DyeVats();
            way.lay(x, 1, "");
            x.vat(0, 0, 99, 0);
            due("STEPS of " + steps, sum(x, 0, 1, 0, 1, way.a, way.b, 0, 0, 0, 0), Math.min(steps, 1000));
            due("its PRICE", x.order(1, -1), Math.min(steps, 1000));
            x = new DyeVats();
            way = Way.of(steps - 1);
            way.lay(x, 1, "k");
            due("STEPS of " + steps + " with k", sum(x, 0, 1, 0, 1, way.a, way.b, 0, 0, 0, 0), Math.min(steps, 1000));
        }
        due("of an untold RECIPE", sum(new DyeVats(), 0, 0, 0, 0, 9, 9, 9, 9, 9, 9), 0);
    }

    @Says(promise = 0, words = " as RECIPES and VATS are when it is asked)")
    static void asTheyAreWhenAsked() {
        DyeVats x = market(7);
        again(x, 0, 7, 0, 1);
        due("as told", x.order(1, -1), 7);
        recipe(x, 2, "dada");
        due("another RECIPE", x.order(1, -1), 2);
        recipe(x, 2, "wa(ta)");
        x.vat(0, 1, 99, 0);
        due("a leaking VAT", x.order(1, -1), 3);
        x.vat(0, 2, 99, 0);
        due("a blind VAT", x.order(1, -1), 1);
        x.vat(0, 0, 1, 1);
        due("a lower BRIM", x.order(1, -1), 3);
        due("MEASURES now are not asked", x.count(10), 1);
        recipe(x, 2, "x");
        due("a FAULT leaves it", x.order(1, -1), 3);
    }

    @Says(promise = 0, words = ": one behind the other by one clerk: THE ORDER of least PRICES together;")
    static void leastPricesTogether() {
        DyeVats x = market(11, 5, 1);
        again(x, 0, 11, 11, 1);
        again(x, 1, 5, 5, 2);
        again(x, 2, 1, 1, 3);
        // 2 1 0: 0 + 2 + 6; 1 2 0: 0 + 15 + 6; 2 0 1: 0 + 1 + 24; all others are dearer
        row("three", x, 7, 8, 2, 1, 0);
        row("two", x, 3, 5, 1, 0);
        row("one", x, 4, 0, 2);
        // 0 1: 20 for 1; 1 0: 3 for 0
        x = market(5, 3);
        again(x, 0, 5, 5, 1);
        again(x, 1, 3, 3, 4);
        row("the later number first", x, 3, 3, 1, 0);
        again(x, 0, 5, 5, 7);
        // 0 1: 5 * 4 = 20; 1 0: 3 * 7 = 21
        row("by one PRICE", x, 3, 20, 0, 1);
        again(x, 0, 5, 5, 99);
        again(x, 1, 3, 0, 99);
        row("not in time at all", x, 3, 99 * (3 + 3), 1, 0);
    }

    @Says(promise = 0, words = " of like ones the least row.")
    static void leastRowOfLikeOnes() {
        DyeVats x = market(3, 3, 3, 3, 3, 3, 3, 3);
        row("all are in time", x, 255, 0, 0, 1, 2, 3, 4, 5, 6, 7);
        row("some of them", x, 0xA4, 0, 2, 5, 7);
        for (int i = 0; i < 8; i++) {
            again(x, i, 3, 0, 5);
        }
        row("all are like", x, 255, 5 * 3 * 36, 0, 1, 2, 3, 4, 5, 6, 7);
        again(x, 0, 3, 0, 4);
        row("the cheapest goes last", x, 255, 5 * 3 * 28 + 4 * 3 * 8, 1, 2, 3, 4, 5, 6, 7, 0);
        // 0 costs nothing and hurries 1 not: 0 1 2 is as dear as 1 0 2
        x = market(1, 3, 5);
        again(x, 1, 3, 4, 9);
        row("room for one ahead", x, 7, 0, 0, 1, 2);
        again(x, 1, 3, 3, 9);
        row("no room for it", x, 7, 0, 1, 0, 2);
    }

    @Says(promise = 14, words = "A SUM by the first 6 bytes of the tape (MEASURES; empty then), in place of the one before: how many STEPS it takes now;")
    static void p14FirstSixBytes() {
        DyeVats x = new DyeVats();
        recipe(x, 0, "wa(ta)wb(tb)wc(tc)wd(td)we(te)wf(tf)");
        for (int v = 0; v < 6; v++) {
            int[] m = new int[6];
            m[v] = 3 + v;
            due("byte " + v, sum(x, v, 0, 0, 1, m), 6 + 2 * (3 + v));
            due("empty then", x.count(3), 0);
        }
        fed(x, bytes(0, 0, 0, 0, 0, 0, 200, 200) + many("a", 90));
        due("the seventh byte is no MEASURE", x.sum(6, 0, 0, 1), 6);
        due("all are gone", x.count(3), 0);
        due("told", x.count(5), 127);
        due("before", x.order(1, -1), 12);
        due("in place of the one before", sum(x, 0, 0, 2, 3, 0, 0, 0, 0, 0, 0), 6);
        due("as told last", x.order(1, -1), 12);
        sum(x, 0, 0, 5, 3, 0, 0, 0, 0, 0, 0);
        due("due as told last", x.order(1, -1), 3);
        sum(x, 0, 1, 5, 3, 0, 0, 0, 0, 0, 0);
        due("a RECIPE as told last", x.order(1, -1), 0);
        due("told as before", x.count(5), 127);
    }

    @Says(promise = 14, words = " -2: a MEASURE above 99;")
    static void p14MeasureAbove99() {
        for (int v = 0; v < 6; v++) {
            int[] m = new int[6];
            DyeVats x = new DyeVats();
            m[v] = 99;
            due("99", sum(x, 0, 0, 0, 0, m), 0);
            int[] high = {100, 127, 128, 255};
            for (int h : high) {
                m[v] = h;
                due(h + " at " + v, sum(x, 1, 0, 0, 0, m), -2);
                due("the tape is empty", x.count(3), 0);
                due("not told", x.count(5), 1);
            }
        }
        String tooHigh = bytes(1, 2, 3, 4, 5, 100);
        for (int i = 0; i < 8; i += 3) {
            int of = i;
            onlyEmpties("a MEASURE of 100", Town::busyWithoutTape, x -> {
                fed(x, tooHigh);
                due("too high", x.sum(of, 1, 5, 5), -2);
            });
        }
    }

    @Says(promise = 14, words = " NONE: no such ones, it has not so many (the tape stays).")
    static void p14NoSuchOnes() {
        int[][] bad = {{-1, 0, 0, 0}, {8, 0, 0, 0}, {LOW, 0, 0, 0}, {HIGH, 0, 0, 0}, {0, -1, 0, 0}, {0, 3, 0, 0}, {0, LOW, 0, 0}, {0, HIGH, 0, 0}, {0, 0, -1, 0}, {0, 0, 10000, 0}, {0, 0, LOW, 0}, {0, 0, HIGH, 0},
            {0, 0, 0, -1}, {0, 0, 0, 100}, {0, 0, 0, LOW}, {0, 0, 0, HIGH}};
        for (int[] b : bad) {
            unchanged("sum", Town::busy, x -> due("refused", x.sum(b[0], b[1], b[2], b[3]), -1));
        }
        unchanged("no tape", Town::busyWithoutTape, x -> due("refused", x.sum(0, 0, 0, 0), -1));
        DyeVats x = new DyeVats();
        fed(x, bytes(200, 0, 0, 0, 0, 0));
        due("no such SUM, though a MEASURE is too high", x.sum(8, 0, 0, 0), -1);
        due("the tape stays", x.count(3), 20);
        due("the MEASURE is too high", x.sum(7, 2, 9999, 99), -2);
    }

    @Says(promise = 15, words = "THE ORDER of SUMS (bits, not empty), what NONE PRICES, else the SUM at place what;")
    static void p15Places() {
        DyeVats x = market(3, 3, 3, 3, 3, 3, 3, 3);
        for (int sums = 1; sums <= 255; sums += 2) {
            int many = Integer.bitCount(sums);
            due("the first of " + sums, x.order(sums, 0), 0);
            due("the last of " + sums, x.order(sums, many - 1), 31 - Integer.numberOfLeadingZeros(sums));
            if (sums < 128) {
                due("behind the last of " + sums, x.order(sums, many), -1);
            }
        }
        int prices = 0;
        Way way = Way.of(1001);
        way.lay(x, 0, "");
        for (int i = 0; i < 8; i++) {
            sum(x, i, 0, 0, 99, way.a, way.b, 0, 0, 0, 0);
            prices += 99 * 1000 * (i + 1);
        }
        due("the highest PRICES", x.order(255, -1), prices);
    }

    @Says(promise = 15, words = " -2: one is not told;")
    static void p15OneIsNotTold() {
        DyeVats x = market(3, 3, 3);
        due("all are told", x.order(7, -1), 0);
        due("one is not", x.order(15, -1), -2);
        due("one is not: a place", x.order(15, 3), -2);
        due("one is not: no such place goes first", x.order(15, 4), -1);
        due("none is", x.order(128, -1), -2);
        due("none is: its place", x.order(128, 0), -2);
        due("none is: no such place", x.order(128, 1), -1);
        unchanged("one is not told", Town::busy, y -> due("not told", y.order(11, -1), -2));
    }

    @Says(promise = 15, words = " NONE also: no such ones, no such place.")
    static void p15NoSuchOnesOrPlace() {
        int[][] bad = {{0, -1}, {0, 0}, {256, -1}, {257, 0}, {-1, -1}, {LOW, -1}, {HIGH, -1}, {9, -2}, {9, 2}, {9, 7}, {9, 8}, {9, LOW}, {9, HIGH}, {1, 1}};
        for (int[] b : bad) {
            unchanged("order", Town::busy, x -> due("refused", x.order(b[0], b[1]), -1));
        }
        for (int what = -1; what < 2; what++) {
            int of = what;
            unchanged("a good one", Town::busy, x -> due("taken", x.order(9, of) >= 0, true));
        }
    }
}
