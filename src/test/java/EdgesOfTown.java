/** Promises 1 (a new object), 2 (vat), 6 (run), 7 (done), 16 (seed) to 21 (count), and their Terms. */
final class EdgesOfTown extends Edges {
    @Says(promise = 0, words = "A call that is refused (NONE, false) changes nothing but the tape, where it is told.")
    static void refusedCallsChangeNothing() {
        unchanged("vat", Town::busy, x -> due("vat", x.vat(0, 0, 3, 4), false));
        unchanged("recipe", Town::busy, x -> due("recipe", x.recipe(0, 121), -1));
        unchanged("spec", Town::busy, x -> due("spec", x.spec(121), -1));
        unchanged("run", Town::busy, x -> due("run", x.run(0, 0, 0), -1));
        unchanged("done", Town::busy, x -> due("done", x.done(0, 20001), -1));
        unchanged("sum", Town::busy, x -> due("sum", x.sum(8, 0, 0, 0), -1));
        unchanged("order", Town::busy, x -> due("order", x.order(256, -1), -1));
        unchanged("seed", Town::busy, x -> due("seed", x.seed(65536), false));
        unchanged("night", Town::busy, x -> due("night", x.night(41), -1));
        unchanged("check", Town::busy, x -> due("check", x.check(7), -2));
        unchanged("count", Town::busy, x -> due("count", x.count(7), -1));
    }

    @Says(promise = 0, words = "The constants: `NONE = -1`: There is none.")
    static void noneIsMinusOne() {
        due("NONE", DyeVats.NONE, -1);
    }

    @Says(promise = 1, words = "Six plain, empty VATS;")
    static void p01SixPlainEmptyVats() {
        DyeVats x = new DyeVats();
        for (int v = 0; v < 6; v++) {
            due("KIND", x.count(30 + v), 0);
            due("BRIM", x.count(20 + v), 99);
            due("MEASURE", x.count(10 + v), 0);
        }
        due("no seventh", x.count(16), -1);
        due("together", x.count(6), 0);
    }

    @Says(promise = 1, words = " no RECIPES, SPEC, SUMS; THE SEED 1.")
    static void p01NothingElse() {
        DyeVats x = new DyeVats();
        for (int w = 0; w < 3; w++) {
            due("ACTS", x.count(40 + w), 0);
            due("ends at once", x.run(w, 1, 0), 1);
            due("no SPEC", x.run(w, 1, 5), 1);
        }
        due("no SUMS", x.count(5), 0);
        for (int i = 0; i < 8; i++) {
            due("SUM " + i, x.order(1 << i, -1), -2);
        }
        due("X", x.count(4), 1);
        due("nothing SPILT", x.count(0), 0);
        due("no CLOTH", x.count(1), 0);
        due("COLOUR", x.count(2), 0);
        due("no tape", x.count(3), 0);
        due("nothing KEPT", x.undo(), false);
        // 25173 + 13849 = 39022
        x.night(1);
        due("X from the SEED 1", x.count(4), 39022);
    }

    @Says(promise = 2, words = "A VAT: true; false: no such ones.")
    static void p02TrueOrFalse() {
        int[][] good = {{0, 0, 0, 0}, {5, 3, 99, 99}, {0, 3, 0, 0}, {5, 0, 99, 0}, {2, 1, 1, 1}, {3, 2, 50, 50}};
        for (int[] g : good) {
            DyeVats x = busy();
            due("taken", x.vat(g[0], g[1], g[2], g[3]), true);
            due("KIND", x.count(30 + g[0]), g[1]);
            due("BRIM", x.count(20 + g[0]), g[2]);
            due("MEASURE", x.count(10 + g[0]), g[3]);
            for (int v = 0; v < 6; v++) {
                due("other BRIMS stay", x.count(20 + v), v == g[0] ? g[2] : 4 + v);
                due("other KINDS stay", x.count(30 + v), v == g[0] ? g[1] : v % 4);
            }
            due("the tape stays", x.count(3), 40);
        }
        int[][] bad = {{-1, 0, 9, 0}, {6, 0, 9, 0}, {LOW, 0, 9, 0}, {HIGH, 0, 9, 0}, {0, -1, 9, 0}, {0, 4, 9, 0}, {0, LOW, 9, 0}, {0, HIGH, 9, 0}, {0, 0, -1, 0}, {0, 0, -1, -1}, {0, 0, 100, 0},
            {0, 0, 100, 100}, {0, 0, LOW, LOW}, {0, 0, HIGH, 0}, {0, 0, 9, -1}, {0, 0, 9, 10}, {0, 0, 0, 1}, {0, 0, 99, 100}, {0, 0, 9, LOW}, {0, 0, 9, HIGH}};
        for (int[] b : bad) {
            unchanged("vat", Town::busy, x -> due("refused", x.vat(b[0], b[1], b[2], b[3]), false));
        }
    }

    @Says(promise = 6, words = "A RUN by a LIMIT (1 to 20000)")
    static void p06LimitFrom1To20000() {
        for (int steps = 19999; steps <= 20001; steps++) {
            DyeVats x = new DyeVats();
            Way.of(steps).lay(x, 0, "");
            due("ends after " + steps, x.run(0, 20000, 0), steps <= 20000 ? 1 : 3);
            due("STEPS of " + steps, x.run(0, 20000, 1), Math.min(steps, 20000));
            due("ends after " + steps + " by 19999", x.run(0, 19999, 0), steps <= 19999 ? 1 : 3);
            Way.of(steps - 1).lay(x, 0, "k");
            due("ends by k after " + steps, x.run(0, 20000, 0), steps <= 20000 ? 2 : 3);
        }
        DyeVats x = holding(1);
        recipe(x, 0, "wa(haa)");
        int[] limits = {1, 2, 3, 19998, 19999, 20000};
        for (int limit : limits) {
            due("a loop by " + limit, x.run(0, limit, 1), limit);
            due("a loop by " + limit + " ends", x.run(0, limit, 0), 3);
        }
    }

    // A ROUND of eight STEPS, counted STEP by STEP: two TAKEN, one SPILT at the BRIM, one by a leak.
    private static void longRun(int limit) {
        DyeVats x = holding(1, 5, 5);
        x.vat(3, 0, 2, 2);
        x.vat(4, 1, 9, 0);
        // Ten STEPS ahead of it: seven are SPILT, the last is a TAKING.
        due("it is read", recipe(x, 0, "hff" + many("dd", 7) + "data" + "wa(tbdbtcdcdddetf)"), 18);
        int spilt = 0;
        int cloth = 0;
        int colour = 0;
        for (int step = 0; step < limit; step++) {
            int at = (step - 10) % 8;
            int taken = step == 9 ? 1 : step < 10 ? 0 : at == 1 ? 2 : at == 3 ? 3 : 0;
            spilt += step > 0 && step < 8 || step >= 10 && (at == 5 || at == 6) ? 1 : 0;
            cloth += taken > 0 ? 1 : 0;
            colour = taken > 0 ? (7 * colour + taken) % 1009 : colour;
        }
        due("ends by " + limit, x.run(0, limit, 0), 3);
        due("STEPS by " + limit, x.run(0, limit, 1), limit);
        due("SPILT by " + limit, x.run(0, limit, 2), spilt);
        due("CLOTH by " + limit, x.run(0, limit, 3), cloth);
        due("COLOUR by " + limit, x.run(0, limit, 4), colour);
    }

    @Says(promise = 6, words = "A RUN by a LIMIT (1 to 20000)")
    static void p06EachStepOfALongRunCounts() {
        for (int limit = 1; limit <= 150; limit++) {
            longRun(limit);
        }
        for (int limit = 19980; limit <= 20000; limit++) {
            longRun(limit);
        }
    }

    @Says(promise = 6, words = "A RUN by a LIMIT (1 to 20000)")
    static void p06ALongRunThatEndsIsNoRound() {
        for (int idle = 0; idle <= 8; idle++) {
            int steps = (2 + idle) * 99 + 1;
            String text = "wa(ta" + many("hff", idle) + ")";
            due("STEPS of " + text, ran(text, 20000, 1, 99), steps);
            due("the end of " + text, ran(text, steps, 0, 99), 1);
            due("CLOTH of " + text, ran(text, 20000, 3, 99), 99);
        }
        due("all MEASURES change", ran("wa(tadbdcdddedf)", 20000, 1, 99), 7 * 99 + 1);
        due("all MEASURES change", ran("wa(tatbtctdtetf)", 20000, 3, 50, 60, 60, 60, 60, 60), 300);
    }

    // dada at a BRIM of 1, tb, then k: one SPILT, one into the CLOTH, COLOUR 2, four STEPS, a 1, b 2.
    private static DyeVats forRuns() {
        DyeVats x = holding(0, 3);
        x.vat(0, 0, 1, 0);
        recipe(x, 0, "dadatbkda");
        spec(x, "s=1");
        return x;
    }

    @Says(promise = 6, words = ", what 0 how it ends, 1 STEPS, 2 how much is SPILT, 3 goes into the CLOTH, 4 the COLOUR, 5 whether the SPEC holds (1, 0), 10 + v the MEASURE of VAT v then ")
    static void p06What() {
        DyeVats x = forRuns();
        int[] answers = {2, 4, 1, 1, 2, 1, -1, -1, -1, -1, 1, 2, 0, 0, 0, 0, -1};
        for (int what = 0; what < answers.length; what++) {
            due("what " + what, x.run(0, 99, what), answers[what]);
        }
        due("what -1", x.run(0, 99, -1), -1);
        due("the SPEC does not hold", x.run(0, 1, 5), 0);
        x = new DyeVats();
        for (int v = 0; v < 6; v++) {
            recipe(x, 0, "d" + (char) ('a' + v));
            due("VAT " + v, x.run(0, 9, 10 + v), 1);
        }
    }

    @Says(promise = 6, words = "(0 SPILT, 0 CLOTH, COLOUR 0 at its beginning; nothing is changed);")
    static void p06FromNoughtAndNothingIsChanged() {
        DyeVats x = forRuns();
        x.done(0, 99);
        x.vat(0, 0, 1, 0);
        x.vat(1, 0, 99, 3);
        due("SPILT", x.run(0, 99, 2), 1);
        due("CLOTH", x.run(0, 99, 3), 1);
        due("COLOUR", x.run(0, 99, 4), 2);
        due("the SPEC's s", x.run(0, 99, 5), 1);
        due("again", x.run(0, 99, 2), 1);
        for (int what = 0; what < 16; what++) {
            int of = what;
            unchanged("run", Town::busy, y -> y.run(0, 20000, of));
        }
    }

    @Says(promise = 6, words = " NONE: no such ones.")
    static void p06NoSuchOnes() {
        int[][] bad = {{-1, 1, 0}, {3, 1, 0}, {LOW, 1, 0}, {HIGH, 1, 0}, {0, 0, 0}, {0, -1, 0}, {0, 20001, 0}, {0, LOW, 0}, {0, HIGH, 0}, {0, 1, -1}, {0, 1, 6}, {0, 1, 9}, {0, 1, 16}, {0, 1, LOW}, {0, 1, HIGH}};
        for (int[] b : bad) {
            unchanged("run", Town::busy, x -> due("refused", x.run(b[0], b[1], b[2]), -1));
        }
    }

    @Says(promise = 0, words = "DONE is a RUN, if MEASURES stay as it leaves them.")
    static void doneLeavesMeasures() {
        DyeVats x = forRuns();
        int[] after = new int[6];
        for (int v = 0; v < 6; v++) {
            after[v] = x.run(0, 99, 10 + v);
        }
        due("how it ends", x.done(0, 99), 2);
        for (int v = 0; v < 6; v++) {
            due("MEASURE of " + v, x.count(10 + v), after[v]);
        }
        due("BRIMS stay", x.count(20), 1);
        due("the tape stays", x.count(3), 0);
        x = busy();
        x.done(0, 20000);
        due("the tape stays", x.count(3), 40);
        due("X stays", x.count(4), busy().count(4));
    }

    @Says(promise = 7, words = "DONE by a LIMIT (1 to 20000): how it ends; NONE: no such ones.")
    static void p07LimitFrom1To20000() {
        for (int steps = 19999; steps <= 20001; steps++) {
            DyeVats x = new DyeVats();
            Way.of(steps).lay(x, 0, "");
            due("ends after " + steps, x.done(0, 20000), steps <= 20000 ? 1 : 3);
        }
        DyeVats x = new DyeVats();
        recipe(x, 2, "dadbk");
        due("by 1", x.done(2, 1), 3);
        due("one STEP is done", x.count(10), 1);
        due("and no other", x.count(11), 0);
        due("by 2", x.done(2, 2), 3);
        due("by 3", x.done(2, 3), 2);
        due("from the first ACT on each time", x.count(10), 3);
        due("an untold one", x.done(0, 1), 1);
        int[][] bad = {{-1, 1}, {3, 1}, {LOW, 1}, {HIGH, 1}, {0, 0}, {0, -1}, {0, 20001}, {0, LOW}, {0, HIGH}};
        for (int[] b : bad) {
            unchanged("done", Town::busy, y -> due("refused", y.done(b[0], b[1]), -1));
        }
    }

    @Says(promise = 7, words = "(SPILT, CLOTH and COLOUR go on from what was DONE.)")
    static void p07GoesOn() {
        DyeVats x = forRuns();
        x.done(0, 99);
        due("SPILT", x.count(0), 1);
        due("CLOTH", x.count(1), 1);
        due("COLOUR", x.count(2), 2);
        x.done(0, 99);
        due("SPILT goes on", x.count(0), 3);
        due("CLOTH goes on", x.count(1), 2);
        due("COLOUR goes on", x.count(2), 16);
        // 16 * 7 + 2 = 114; 114 * 7 + 4 = 802; 802 * 7 + 5 = 5619 = 5 * 1009 + 574
        recipe(x, 0, "tbddtddete");
        x.done(0, 99);
        due("COLOUR goes on modulo 1009", x.count(2), 574);
        due("a RUN begins anew", x.run(0, 99, 4), 4 * 7 + 5);
    }

    @Says(promise = 0, words = "AT NIGHT: n times (1 to 40): X = (25173 X + 13849) modulo 65536 (X is THE SEED at first, 1): VAT X modulo 6:")
    static void nightGoesOnByX() {
        for (int n = 1; n <= 40; n++) {
            DyeVats at = holding(50, 50, 50, 50, 50, 50);
            DyeVats once = holding(50, 50, 50, 50, 50, 50);
            at.night(n);
            long x = 1;
            for (int i = 0; i < n; i++) {
                once.night(1);
                x = (25173 * x + 13849) % 65536;
            }
            due("X after " + n, at.count(4), (int) x);
            for (int what = 0; what < 43; what++) {
                due("one behind the other, count " + what, once.count(what), at.count(what));
            }
        }
    }

    // The seed from which X becomes this.
    private static int seedTo(int x) {
        for (int seed = 0; seed < 65536; seed++) {
            if ((25173L * seed + 13849) % 65536 == x) {
                return seed;
            }
        }
        throw new IllegalArgumentException("no seed to " + x);
    }

    @Says(promise = 0, words = " one more if X / 6 modulo 2 is 0 (at the BRIM it is SPILT), else one less (SPILT), if there is one.")
    static void nightAtBrimsAndEmptyOnes() {
        int[] xs = {0, 1, 5, 6, 11, 12, 17, 65529, 65530, 65535};
        for (int x : xs) {
            int v = x % 6;
            boolean more = x / 6 % 2 == 0;
            for (int m = 0; m <= 2; m++) {
                DyeVats town = brims(2, 2, 2, 2, 2, 2);
                town.vat(v, 0, 2, m);
                town.seed(seedTo(x));
                int spilt = more ? (m == 2 ? 1 : 0) : (m == 0 ? 0 : 1);
                int left = more ? Math.min(2, m + 1) : Math.max(0, m - 1);
                due("SPILT by X " + x + " at " + m + " of 2", town.night(1), spilt);
                due("left by X " + x + " at " + m + " of 2", town.count(10 + v), left);
                due("others stay", town.count(6), left);
                due("SPILT counts", town.count(0), spilt);
                due("no CLOTH", town.count(1), 0);
                due("X", town.count(4), x);
            }
        }
        DyeVats town = brims();
        town.seed(seedTo(0));
        due("a BRIM of 0", town.night(1), 1);
    }

    @Says(promise = 16, words = "THE SEED (0 to 65535; X, too): true; false: no such number.")
    static void p16SeedFrom0To65535() {
        int[] good = {0, 1, 65534, 65535};
        for (int seed : good) {
            DyeVats x = busy();
            due("seed " + seed, x.seed(seed), true);
            due("X, too", x.count(4), seed);
            x.night(1);
            due("X goes on from it", x.count(4), (int) ((25173L * seed + 13849) % 65536));
        }
        int[] bad = {LOW, -65536, -1, 65536, 65537, HIGH};
        for (int seed : bad) {
            unchanged("seed(" + seed + ")", Town::busy, x -> due("refused", x.seed(seed), false));
        }
    }

    @Says(promise = 17, words = "AT NIGHT: how much is SPILT; NONE: no such n.")
    static void p17From1To40() {
        int[] bad = {LOW, -1, 0, 41, 42, HIGH};
        for (int n : bad) {
            unchanged("night(" + n + ")", Town::busy, x -> due("refused", x.night(n), -1));
        }
        DyeVats x = brims();
        // With no room all that is more is SPILT, and none can be less.
        int expected = 0;
        long seed = 1;
        for (int i = 0; i < 40; i++) {
            seed = (25173 * seed + 13849) % 65536;
            expected += seed / 6 % 2 == 0 ? 1 : 0;
        }
        due("the longest night", x.night(40), expected);
        due("all SPILT", x.count(0), expected);
        int again = x.night(40);
        due("of one night alone", x.count(0), expected + again);
        x = holding(9, 9, 9, 9, 9, 9);
        for (int v = 0; v < 6; v++) {
            x.vat(v, 1 + v % 3, 99, 9);
        }
        due("the shortest night", x.night(1), 1);
        due("KINDS do not work at night", x.count(6), 6 * 9 - 1);
    }

    @Says(promise = 0, words = "KEPT: MEASURES, SPILT, CLOTH, COLOUR (of all that was DONE), X; UNDONE: as they were KEPT last.")
    static void keptLastIsUndone() {
        DyeVats x = forRuns();
        x.done(0, 99);
        x.seed(9);
        x.keep();
        x.done(0, 99);
        x.night(5);
        due("undone", x.undo(), true);
        int[] counts = {1, 1, 2, 0, 9};
        for (int what = 0; what < counts.length; what++) {
            due("count(" + what + ")", x.count(what), counts[what]);
        }
        due("a", x.count(10), 1);
        due("b", x.count(11), 2);
        x.night(40);
        due("undone once more", x.undo(), true);
        due("X once more", x.count(4), 9);
        x.vat(1, 2, 98, 50);
        x.keep();
        x.vat(1, 0, 97, 7);
        x.undo();
        due("as KEPT last", x.count(11), 50);
        due("a BRIM is not KEPT", x.count(21), 97);
        due("a KIND is not KEPT", x.count(31), 0);
        recipe(x, 1, "k");
        spec(x, "1=2");
        sum(x, 4, 0, 0, 0, 0, 0, 0, 0, 0, 0);
        fed(x, "a");
        x.undo();
        due("a RECIPE is not KEPT", x.count(41), 1);
        due("a SPEC is not KEPT", x.run(1, 9, 5), 0);
        due("a SUM is not KEPT", x.count(5), 16);
        due("the tape is not KEPT", x.count(3), 20);
    }

    @Says(promise = 18, words = "KEPT: MEASURES of all VATS together.")
    static void p18Together() {
        due("none", new DyeVats().keep(), 0);
        due("some", holding(1, 2, 3, 4, 5, 6).keep(), 21);
        due("all full", holding(99, 99, 99, 99, 99, 99).keep(), 594);
        DyeVats x = busy();
        int together = x.count(6);
        due("as count tells", x.keep(), together);
        due("as before", x.count(6), together);
        due("the tape stays", x.count(3), 40);
    }

    @Says(promise = 19, words = "UNDONE: true; false: none was KEPT, a MEASURE would be above its BRIM.")
    static void p19AboveItsBrim() {
        due("none was KEPT", holding(3).undo(), false);
        unchanged("none was KEPT", EdgesOfTown::neverKept, x -> due("refused", x.undo(), false));
        for (int v = 0; v < 6; v++) {
            int of = v;
            DyeVats x = keptThenLower(v, 5);
            due("at its BRIM", x.undo(), true);
            due("its MEASURE", x.count(10 + v), 5);
            x = keptThenLower(v, 6);
            due("below its BRIM", x.undo(), true);
            unchanged("above its BRIM", () -> keptThenLower(of, 4), y -> due("refused", y.undo(), false));
            x = keptThenLower(v, 4);
            x.undo();
            x.vat(v, 0, 5, 0);
            due("room again", x.undo(), true);
        }
    }

    private static DyeVats neverKept() {
        DyeVats x = holding(1, 2, 3);
        recipe(x, 0, "wa(ta)");
        x.done(0, 9);
        fed(x, WAITING);
        return x;
    }

    private static DyeVats keptThenLower(int v, int brim) {
        DyeVats x = busy();
        for (int u = 0; u < 6; u++) {
            x.vat(u, 0, 9, 5);
        }
        x.keep();
        x.night(9);
        x.vat(v, 1, brim, 1);
        return x;
    }

    @Says(promise = 0, words = "CHECK: MEASURES: right, or the first number that is not so.")
    static void checkTellsTheFirstWrongNumber() {
        for (int wrong = 0; wrong < 6; wrong++) {
            for (int n = 0; n <= 6; n++) {
                DyeVats x = holding(1, 2, 3, 4, 5, 6);
                int[] numbers = {1, 2, 3, 4, 5, 6};
                for (int i = wrong; i < 6; i++) {
                    numbers[i]++;
                }
                x.feed(numbers[0], numbers[1], numbers[2], numbers[3], numbers[4]);
                x.feed(numbers[5], 0, 0, 0, 0);
                due(n + " numbers, wrong from " + wrong, x.check(n), wrong < n ? wrong : -1);
                due("empty then", x.count(3), 0);
            }
        }
        DyeVats x = holding(1, 2, 3, 4, 5, 6);
        x.feed(1, 2, 9, 4, 5);
        due("one wrong between", x.check(5), 2);
    }

    @Says(promise = 20, words = "CHECK by the first n numbers of the tape (0 to 6; four bytes each; empty then): NONE: right; else the place of the first number that is not so;")
    static void p20FourBytesEach() {
        int[] wrong = {0, 2, -1, 1 + 256, 1 + (1 << 16), 1 + (1 << 24), 1 + (1 << 31), 1 << 24, HIGH, LOW};
        for (int number : wrong) {
            DyeVats x = holding(1);
            x.feed(number, 0, 0, 0, 0);
            due("number " + number, x.check(1), 0);
            due("empty then", x.count(3), 0);
        }
        DyeVats x = holding(1);
        x.feed(1, 0, 0, 0, 0);
        due("right", x.check(1), -1);
        x = holding(0, 99);
        x.feed(0, 99, 0, 0, 0);
        due("99", x.check(5), -1);
        onlyEmpties("right", Town::busy, y -> due("n 0", y.check(0), -1));
        onlyEmpties("wrong", Town::busy, y -> due("n 6", y.check(6), 0));
        onlyEmpties("right", EdgesOfTown::withItsMeasures, y -> due("n 5", y.check(5), -1));
    }

    private static DyeVats withItsMeasures() {
        DyeVats x = busyWithoutTape();
        x.feed(x.count(10), x.count(11), x.count(12), x.count(13), x.count(14));
        return x;
    }

    @Says(promise = 20, words = " -2: no such n, it has not so many (the tape stays).")
    static void p20NoSuchN() {
        int[] bad = {LOW, -1, 7, 8, HIGH, 1 << 30};
        for (int n : bad) {
            unchanged("check(" + n + ")", Town::busy, x -> due("no such n", x.check(n), -2));
        }
        DyeVats x = new DyeVats();
        for (int n = 1; n <= 6; n++) {
            due(n + " of none", x.check(n), -2);
        }
        due("0 of none", x.check(0), -1);
        x.feed(0, 0, 0, 0, 0);
        due("6 of 20 bytes", x.check(6), -2);
        due("the tape stays", x.count(3), 20);
        due("5 of 20 bytes", x.check(5), -1);
        x.feed(0, 0, 0, 0, 0);
        x.feed(0, 0, 0, 0, 0);
        due("6 of 40 bytes", x.check(6), -1);
        unchanged("not so many", EdgesOfTown::withItsMeasures, y -> due("not so many", y.check(6), -2));
    }

    @Says(promise = 21, words = "0 SPILT, 1 CLOTH, 2 COLOUR of all that was DONE (SPILT AT NIGHT, too), 3 bytes of the tape, 4 X, 5 told SUMS (bits), 6 MEASURES together;")
    static void p21From0To6() {
        DyeVats x = forRuns();
        x.done(0, 99);
        x.seed(seedTo(0));
        x.vat(0, 0, 1, 1);
        x.night(1);
        sum(x, 0, 0, 0, 0, 0, 0, 0, 0, 0, 0);
        sum(x, 7, 0, 0, 0, 0, 0, 0, 0, 0, 0);
        fed(x, many("a", 60));
        int[] answers = {2, 1, 2, 60, 0, 129, 3};
        for (int what = 0; what < answers.length; what++) {
            due("count(" + what + ")", x.count(what), answers[what]);
        }
        for (int what = 0; what < 43; what++) {
            int of = what;
            unchanged("count", Town::busy, y -> y.count(of));
        }
    }

    @Says(promise = 21, words = " 10 + v the MEASURE, 20 + v the BRIM, 30 + v the KIND of VAT v, 40 + w ACTS of RECIPE w.")
    static void p21OfEachVatAndRecipe() {
        DyeVats x = new DyeVats();
        for (int v = 0; v < 6; v++) {
            x.vat(v, (v + 1) % 4, 60 + v, 50 + v);
        }
        for (int v = 0; v < 6; v++) {
            due("MEASURE", x.count(10 + v), 50 + v);
            due("BRIM", x.count(20 + v), 60 + v);
            due("KIND", x.count(30 + v), (v + 1) % 4);
        }
        for (int w = 0; w < 3; w++) {
            recipe(x, w, many("k", 3 + w));
        }
        for (int w = 0; w < 3; w++) {
            due("ACTS", x.count(40 + w), 3 + w);
        }
    }

    @Says(promise = 21, words = " NONE for others.")
    static void p21NoneForOthers() {
        DyeVats x = busy();
        int[] others = {LOW, -10, -1, 7, 8, 9, 16, 17, 18, 19, 26, 27, 28, 29, 36, 37, 38, 39, 43, 44, 50, HIGH};
        for (int what : others) {
            due("count(" + what + ")", x.count(what), -1);
        }
        int[] last = {0, 6, 10, 15, 20, 25, 30, 35, 40, 42};
        for (int what : last) {
            due("count(" + what + ") is told", x.count(what) >= 0, true);
        }
    }
}
