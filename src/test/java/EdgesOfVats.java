/** Terms: VATS, KINDS, what a RECIPE's ACTS do, STEPS, LIMITS, THE COLOUR. */
final class EdgesOfVats extends Edges {
    private static final String STOP = "k";

    private static int after(DyeVats x, String text, int what) {
        recipe(x, 0, text);
        return x.run(0, 100, what);
    }

    @Says(promise = 0, words = "VATS a to f (0 to 5): a KIND,")
    static void vatsAreNumbered0To5AndLetteredAToF() {
        DyeVats x = new DyeVats();
        due("vat -1", x.vat(-1, 0, 9, 1), false);
        due("vat 0", x.vat(0, 0, 9, 1), true);
        due("vat 5", x.vat(5, 0, 9, 1), true);
        due("vat 6", x.vat(6, 0, 9, 1), false);
        due("the sign ahead of a", recipe(x, 0, "d`"), -1001);
        due("a", recipe(x, 0, "da"), 1);
        due("f", recipe(x, 0, "df"), 1);
        due("g", recipe(x, 0, "dg"), -1001);
        due("A is no VAT of a RECIPE", recipe(x, 0, "dA"), -1001);
        due("f is VAT 5", after(x, "df", 15), 2);
        due("f is no other one", after(x, "df", 10), 1);
    }

    @Says(promise = 0, words = "a BRIM (0 to 99; 99 at first)")
    static void brimFrom0To99And99AtFirst() {
        DyeVats x = new DyeVats();
        due("brim -1", x.vat(0, 0, -1, 0), false);
        due("brim 0", x.vat(0, 0, 0, 0), true);
        due("brim 99", x.vat(0, 0, 99, 0), true);
        due("brim 100", x.vat(0, 0, 100, 0), false);
        x = new DyeVats();
        recipe(x, 0, "dawa(da)");
        due("98 dips", x.run(0, 195, 10), 98);
        due("99 dips", x.run(0, 197, 10), 99);
        due("99 dips spill nothing", x.run(0, 197, 2), 0);
        due("100 dips", x.run(0, 199, 10), 99);
        due("the 100th is spilt", x.run(0, 199, 2), 1);
    }

    @Says(promise = 0, words = "a MEASURE (0 to BRIM; 0 at first)")
    static void measureFrom0ToBrimAnd0AtFirst() {
        int[] brims = {0, 1, 9, 99};
        for (int brim : brims) {
            DyeVats x = new DyeVats();
            due("at first", x.count(12), 0);
            due("-1 of " + brim, x.vat(2, 0, brim, -1), false);
            due("0 of " + brim, x.vat(2, 0, brim, 0), true);
            due("all of " + brim, x.vat(2, 0, brim, brim), true);
            due("its measure", x.count(12), brim);
            due("one more than " + brim, x.vat(2, 0, brim, brim + 1), false);
        }
    }

    @Says(promise = 0, words = "KINDS: 0 plain (at first)")
    static void kindsFrom0To3AndPlainAtFirst() {
        DyeVats x = new DyeVats();
        due("at first", x.count(35), 0);
        due("kind -1", x.vat(5, -1, 9, 1), false);
        due("kind 0", x.vat(5, 0, 9, 9), true);
        due("kind 3", x.vat(5, 3, 9, 9), true);
        due("kind 4", x.vat(5, 4, 9, 9), false);
        x.vat(5, 0, 9, 9);
        due("a plain one stays as it is behind a STEP", after(x, STOP, 15), 9);
        due("and spills nothing", after(x, STOP, 2), 0);
    }

    @Says(promise = 0, words = "1 leaking: behind each STEP one of it is SPILT, if it is not empty")
    static void leakingLosesOneIfNotEmpty() {
        for (int m = 0; m <= 2; m++) {
            DyeVats x = new DyeVats();
            x.vat(3, 1, 9, m);
            due("what is left of " + m, after(x, STOP, 13), Math.max(0, m - 1));
            due("what is spilt of " + m, after(x, STOP, 2), Math.min(1, m));
        }
    }

    @Says(promise = 0, words = "1 leaking: behind each STEP one of it is SPILT, if it is not empty")
    static void leakingIsBehindEachKindOfStep() {
        String[] steps = {"db", "tb", "pbc", "hbc", "wb(k)", "wc(tc)", STOP};
        for (String step : steps) {
            DyeVats x = new DyeVats();
            x.vat(0, 1, 9, 9);
            due("behind " + step, after(x, step, 10), 8);
        }
        DyeVats x = new DyeVats();
        x.vat(0, 1, 9, 9);
        due("behind a test and k", after(x, "ib(k:k)", 10), 7);
        due("no STEP, no leak", x.run(1, 100, 10), 9);
        x.vat(0, 1, 9, 1);
        due("the test goes ahead of the leak", after(x, "ia(db:dc)", 11), 1);
        due("a DIP leaks at once", after(x, "tada", 10), 0);
        x.vat(0, 1, 9, 9);
        due("a DIP at the BRIM, then the leak", after(x, "da", 2), 2);
        due("which makes room", after(x, "da", 10), 8);
    }

    @Says(promise = 0, words = "2 blind: a test of it always finds it empty")
    static void blindIsFoundEmpty() {
        int[] measures = {0, 1, 99};
        for (int m : measures) {
            DyeVats x = new DyeVats();
            x.vat(0, 2, 99, m);
            due("w of " + m, after(x, "wa(db)", 1), 1);
            due("i of " + m, after(x, "ia(db:dc)", 12), 1);
            due("i of " + m + ", the first ones", after(x, "ia(db:dc)", 11), 0);
            due("it is taken all the same", after(x, "ta", 3), Math.min(1, m));
            due("it is poured all the same", after(x, "pab", 11), m);
            due("it keeps what it has", after(x, STOP, 10), m);
        }
    }

    @Says(promise = 0, words = "if it has at least two more than the next VAT")
    static void joinedGivesWithTwoMoreNotWithOne() {
        for (int m = 0; m <= 9; m++) {
            DyeVats x = holding(0, m, 4);
            x.vat(1, 3, 99, m);
            due("b " + m + " beside c 4", after(x, STOP, 11), m >= 6 ? m - 1 : m);
            due("c 4 beside b " + m, after(x, STOP, 12), m >= 6 ? 5 : 4);
            due("nothing is spilt", after(x, STOP, 2), 0);
        }
    }

    @Says(promise = 0, words = "3 joined: behind each STEP (behind all leaks)")
    static void joinedGoesBehindAllLeaks() {
        DyeVats x = holding(4, 3);
        x.vat(0, 3, 99, 4);
        due("b is one less", after(x, STOP, 10), 4);
        x.vat(1, 1, 99, 3);
        due("b leaks first, so it is two less", after(x, STOP, 10), 3);
        due("b leaks first, then gets one", after(x, STOP, 11), 3);
        x = holding(3, 0, 0, 0, 0, 4);
        x.vat(0, 1, 99, 3);
        x.vat(5, 3, 99, 4);
        due("a leaks ahead of f", after(x, STOP, 15), 3);
        x = holding(0, 0, 0, 0, 4, 3);
        x.vat(4, 3, 99, 4);
        x.vat(5, 1, 99, 3);
        due("f leaks ahead of e", after(x, STOP, 14), 3);
        due("behind each STEP", after(x, "wa(k)wa(k)ddtdtdk", 14), 1);
    }

    @Says(promise = 0, words = "(f: than a)")
    static void joinedFGoesAroundToA() {
        DyeVats x = holding(3, 0, 0, 0, 0, 4);
        x.vat(5, 3, 99, 4);
        due("one more than a", after(x, STOP, 15), 4);
        x.vat(5, 3, 99, 5);
        due("two more than a", after(x, STOP, 15), 4);
        due("into a", after(x, STOP, 10), 4);
        due("e gets nothing", after(x, STOP, 14), 0);
        x.vat(5, 0, 99, 5);
        x.vat(4, 3, 99, 7);
        due("e goes into f", after(x, STOP, 15), 6);
    }

    @Says(promise = 0, words = ", one goes over into that, if there is room")
    static void joinedGivesOnlyIfThereIsRoom() {
        for (int brim = 3; brim <= 4; brim++) {
            DyeVats x = holding(9);
            x.vat(0, 3, 99, 9);
            x.vat(1, 0, brim, 3);
            due("a beside b 3 of " + brim, after(x, STOP, 10), brim == 3 ? 9 : 8);
            due("b 3 of " + brim, after(x, STOP, 11), brim);
        }
        DyeVats x = holding(9);
        x.vat(0, 3, 99, 9);
        x.vat(1, 0, 0, 0);
        due("no room at all", after(x, STOP, 10), 9);
        x.vat(5, 3, 99, 20);
        x.vat(0, 0, 9, 9);
        due("no room in a", after(x, STOP, 15), 20);
    }

    @Says(promise = 0, words = "; one joined VAT behind the other, by numbers.")
    static void joinedOnesGoByNumbers() {
        DyeVats x = holding(5, 3, 2);
        x.vat(0, 3, 99, 5);
        x.vat(1, 3, 99, 3);
        due("a gives", after(x, STOP, 10), 4);
        due("b gets and gives", after(x, STOP, 11), 3);
        due("c gets", after(x, STOP, 12), 3);
        x = holding(3, 1, 0, 0, 0, 4);
        x.vat(0, 3, 99, 3);
        x.vat(5, 3, 99, 4);
        due("a gives ahead of f, then gets", after(x, STOP, 10), 3);
        due("b gets", after(x, STOP, 11), 2);
        due("f gives behind a", after(x, STOP, 15), 3);
    }

    @Says(promise = 0, words = "(three of them, 0 to 2;")
    static void recipesAreThree() {
        DyeVats x = new DyeVats();
        for (int w = -1; w <= 3; w++) {
            boolean is = w >= 0 && w <= 2;
            fed(x, "dadb");
            due("recipe " + w, x.recipe(w, 4), is ? 2 : -1);
            due("run of " + w, x.run(w, 9, 1), is ? 2 : -1);
            due("count of " + w, x.count(40 + w), is ? 2 : -1);
            x.check(0);
        }
    }

    @Says(promise = 0, words = "none told at first: it ends at once)")
    static void untoldRecipesEndAtOnce() {
        DyeVats x = new DyeVats();
        x.vat(0, 1, 9, 5);
        for (int w = 0; w < 3; w++) {
            due("how it ends", x.run(w, 1, 0), 1);
            due("its STEPS", x.run(w, 1, 1), 0);
            due("no KINDS at work", x.run(w, 1, 10), 5);
            due("its ACTS", x.count(40 + w), 0);
            due("no ROUND", x.round(w, 0), 0);
            due("no SLIPS", x.slips(w, 9, 0), 0);
            due("done", x.done(w, 1), 1);
        }
        due("a as before", x.count(10), 5);
    }

    @Says(promise = 0, words = "d VAT: a DIP adds one (at the BRIM it is SPILT)")
    static void dipAtTheBrimIsSpilt() {
        for (int m = 0; m <= 3; m++) {
            DyeVats x = new DyeVats();
            x.vat(4, 0, 3, m);
            due("a DIP at " + m + " of 3", after(x, "de", 14), Math.min(3, m + 1));
            due("SPILT at " + m + " of 3", after(x, "de", 2), m == 3 ? 1 : 0);
        }
        DyeVats x = brims(0);
        due("a BRIM of 0", after(x, "da", 2), 1);
        due("a BRIM of 0 stays empty", after(x, "da", 10), 0);
    }

    @Says(promise = 0, words = "t VAT: one is TAKEN into the CLOTH, if there is one")
    static void takingIfThereIsOne() {
        for (int m = 0; m <= 2; m++) {
            due("left of " + m, ran("ta", 9, 10, m), Math.max(0, m - 1));
            due("CLOTH of " + m, ran("ta", 9, 3, m), Math.min(1, m));
            due("COLOUR of " + m, ran("ta", 9, 4, m), Math.min(1, m));
            due("a STEP at " + m, ran("ta", 9, 1, m), 1);
            due("nothing is SPILT", ran("ta", 9, 2, m), 0);
        }
    }

    @Says(promise = 0, words = "p VAT VAT: all of the first is poured into the second one, as far as there is room")
    static void pouringAsFarAsThereIsRoom() {
        for (int room = 0; room <= 6; room++) {
            DyeVats x = new DyeVats();
            x.vat(0, 0, 99, 5);
            x.vat(1, 0, 3 + room, 3);
            due("the first, room " + room, after(x, "pab", 10), Math.max(0, 5 - room));
            due("the second, room " + room, after(x, "pab", 11), 3 + Math.min(5, room));
            due("nothing is SPILT", after(x, "pab", 2), 0);
        }
        due("of an empty one nothing", ran("pab", 9, 11, 0, 7), 7);
    }

    @Says(promise = 0, words = "(the rest stays; of one and the same nothing)")
    static void ofOneAndTheSameNothing() {
        int[] measures = {0, 1, 50, 99};
        for (int m : measures) {
            due("p aa of " + m, ran("paa", 9, 10, m), m);
            due("h aa of " + m, ran("haa", 9, 10, m), m);
            due("a STEP all the same", ran("paa", 9, 1, m), 1);
        }
        DyeVats x = brims(9, 2);
        x.vat(0, 0, 9, 7);
        due("the rest stays", after(x, "pab", 10), 5);
        due("nothing is SPILT", after(x, "pab", 2), 0);
    }

    @Says(promise = 0, words = "h VAT VAT: likewise half of it, rounded down")
    static void halfRoundedDownAsFarAsThereIsRoom() {
        int[] measures = {0, 1, 2, 3, 98, 99};
        int[] halves = {0, 0, 1, 1, 49, 49};
        for (int i = 0; i < measures.length; i++) {
            due("half of " + measures[i], ran("hab", 9, 11, measures[i]), halves[i]);
            due("the rest of " + measures[i], ran("hab", 9, 10, measures[i]), measures[i] - halves[i]);
        }
        for (int room = 0; room <= 5; room++) {
            DyeVats x = brims(99, room);
            x.vat(0, 0, 99, 9);
            due("half of 9, room " + room, after(x, "hab", 11), Math.min(4, room));
            due("the rest of 9, room " + room, after(x, "hab", 10), 9 - Math.min(4, room));
        }
    }

    @Says(promise = 0, words = "w VAT (ACTS): a test: while the VAT is not empty, ACTS, then the test again")
    static void whileNotEmpty() {
        for (int m = 0; m <= 2; m++) {
            due("STEPS from " + m, ran("wa(ta)", 99, 1, m), 2 * m + 1);
            due("how often from " + m, ran("wa(tadb)", 99, 11, m), m);
            due("how it ends", ran("wa(ta)", 99, 0, m), 1);
        }
        due("the test comes only ahead of all ACTS", ran("wa(tadbdb)", 99, 11, 1), 2);
    }

    @Says(promise = 0, words = "i VAT (ACTS:ACTS): a test: if it is not empty the first ones, else the others")
    static void ifNotEmptyTheFirstOnes() {
        for (int m = 0; m <= 2; m++) {
            due("the first ones at " + m, ran("ia(dbdb:dc)", 9, 11, m), m == 0 ? 0 : 2);
            due("the others at " + m, ran("ia(dbdb:dc)", 9, 12, m), m == 0 ? 1 : 0);
            due("STEPS at " + m, ran("ia(dbdb:dc)", 9, 1, m), m == 0 ? 2 : 3);
            due("what is behind both", ran("ia(dbdb:dc)dd", 9, 13, m), 1);
        }
    }

    @Says(promise = 0, words = "k: all ends.")
    static void kEndsAll() {
        due("nothing behind it", ran("kda", 9, 10), 0);
        due("out of loops", ran("wa(wb(kta)ta)da", 9, 10, 3, 3), 3);
        due("out of loops: how it ends", ran("wa(wb(kta)ta)da", 9, 0, 3, 3), 2);
        due("as the last ACT", ran("dak", 9, 0), 2);
        due("not come to", ran("ia(k:da)", 9, 0), 1);
    }

    @Says(promise = 0, words = "(VATS are told by their letters a to f.)")
    static void eachLetterIsItsVat() {
        for (int v = 0; v < 6; v++) {
            int next = (v + 1) % 6;
            char letter = (char) ('a' + v);
            char other = (char) ('a' + next);
            int[] three = new int[6];
            three[v] = 3;
            due("d", ran("d" + letter, 9, 10 + v, three), 4);
            due("t", ran("t" + letter, 9, 10 + v, three), 2);
            due("p", ran("p" + letter + other, 9, 10 + next, three), 3);
            due("h", ran("h" + letter + other, 9, 10 + next, three), 1);
            due("w", ran("w" + letter + "(k)", 9, 0, three), 2);
            due("w of another one", ran("w" + other + "(k)", 9, 0, three), 1);
            due("i", ran("i" + letter + "(k:haa)", 9, 0, three), 2);
        }
    }

    @Says(promise = 0, words = "STEPS are DIPS, TAKINGS, pourings, tests and k, each one.")
    static void eachStepIsOne() {
        String[] texts = {"da", "ta", "pab", "paa", "hab", "haa", "wa(k)", "ia(k:da)", "k", "datapabhabkda"};
        int[] steps = {1, 1, 1, 1, 1, 1, 1, 2, 1, 5};
        for (int i = 0; i < texts.length; i++) {
            due("STEPS of " + texts[i], ran(texts[i], 99, 1), steps[i]);
        }
    }

    @Says(promise = 0, words = "A RUN by a LIMIT of STEPS: it ends behind the last ACT (1), by k (2), or ahead of one STEP more than LIMIT (3).")
    static void runEndsAtItsLimit() {
        String[] texts = {"dadb", "wa(ta)", "wb(tb)da", "ia(db:k)", "ib(db:k)", "dak", "kda"};
        int[] steps = {2, 3, 2, 2, 2, 2, 1};
        int[] ends = {1, 1, 1, 1, 2, 2, 2};
        for (int i = 0; i < texts.length; i++) {
            int a = texts[i].startsWith("wa") || texts[i].startsWith("ia") ? 1 : 0;
            for (int limit = 1; limit <= 4; limit++) {
                boolean cut = limit < steps[i];
                due(texts[i] + " by " + limit, ran(texts[i], limit, 0, a), cut ? 3 : ends[i]);
                due("STEPS of " + texts[i] + " by " + limit, ran(texts[i], limit, 1, a), Math.min(limit, steps[i]));
            }
        }
        due("the STEP ahead of which it ends is not done", ran("dadb", 1, 11), 0);
        due("the one ahead of it is", ran("dadb", 1, 10), 1);
    }

    @Says(promise = 0, words = "THE COLOUR of the STRIP: 0 at first; by each TAKING of one from VAT v: 7 times what it was and v and 1, modulo 1009.")
    static void colourIsModulo1009() {
        due("at first", ran("k", 9, 4), 0);
        for (int v = 0; v < 6; v++) {
            due("VAT " + v, ran("t" + (char) ('a' + v), 9, 4, 1, 1, 1, 1, 1, 1), v + 1);
        }
        // b f d: (2 * 7 + 6) * 7 + 4 = 144; b f c: 143
        due("144", ran("tbtftd", 9, 4, 3, 3, 3, 3, 3, 3), 144);
        due("7 * 143 + 6", ran("tbtftctf", 9, 4, 3, 3, 3, 3, 3, 3), 1007);
        due("7 * 144 + 1", ran("tbtftdta", 9, 4, 3, 3, 3, 3, 3, 3), 0);
        due("7 * 144 + 2", ran("tbtftdtb", 9, 4, 3, 3, 3, 3, 3, 3), 1);
        due("an empty one leaves it", ran("tbtftdtc", 9, 4, 3, 3, 0, 3, 3, 3), 144);
    }

    @Says(promise = 0, words = "All memory is the town's own.")
    static void townsShareNothing() {
        DyeVats one = busy();
        DyeVats other = new DyeVats();
        for (int what = 0; what < 43; what++) {
            int first = what == 4 ? 1 : what >= 20 && what <= 25 ? 99 : what < 7 || what > 9 && what < 16 || what > 29 && what < 36 || what > 39 ? 0 : -1;
            due("count(" + what + ") of another town", other.count(what), first);
        }
        String before = seen(EdgesOfVats::busy, x -> { });
        due("two towns made alike are alike", before.equals(seen(EdgesOfVats::busy, x -> new DyeVats().vat(0, 1, 3, 3))), true);
        due("the first one is as it was", one.count(40), 5);
    }
}
