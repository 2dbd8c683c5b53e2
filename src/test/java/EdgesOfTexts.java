/** Terms: RECIPES and SPECS as TEXTS, their FAULTS; promises 3 (feed), 4 (recipe), 5 (spec). */
final class EdgesOfTexts extends Edges {
    private static int recipeOf(String s) {
        return recipe(new DyeVats(), 0, s);
    }

    private static int specOf(String s) {
        return spec(new DyeVats(), s);
    }

    // a 3, b 2; ta, pab: a 0, b 4; eight DIPS at a BRIM of 9: b 9, three SPILT; ten STEPS, one into the CLOTH.
    private static boolean holds(String s) {
        DyeVats x = holding(3);
        x.vat(1, 0, 9, 2);
        recipe(x, 0, "tapab" + many("db", 8));
        due(s + " is read", spec(x, s), 1);
        return x.run(0, 100, 5) == 1;
    }

    private static void hold(String... all) {
        for (String s : all) {
            due(s, holds(s), true);
        }
    }

    private static void holdNot(String... all) {
        for (String s : all) {
            due(s, holds(s), false);
        }
    }

    @Says(promise = 0, words = "A RECIPE (three of them, 0 to 2; none told at first: it ends at once): a TEXT of at most 120 bytes, no blanks")
    static void recipeOfAtMost120BytesWithoutBlanks() {
        DyeVats x = new DyeVats();
        String long120 = many("da", 60);
        fed(x, long120 + "da");
        due("121 bytes", x.recipe(0, 121), -1);
        due("119 bytes", x.recipe(0, 119), -1119);
        due("118 bytes", recipe(x, 0, many("da", 59)), 59);
        due("119 bytes", recipe(x, 0, many("da", 59) + "k"), 60);
        due("120 bytes", recipe(x, 0, long120), 60);
        due("120 bytes are done", x.run(0, 100, 10), 60);
        due("120 ACTS", recipe(x, 0, many("k", 120)), 120);
        due("a blank ahead", recipeOf(" da"), -1000);
        due("a blank within", recipeOf("d a"), -1001);
        due("a blank between", recipeOf("da db"), -1002);
        due("a blank behind", recipeOf("da "), -1002);
        due("a line's end", recipeOf("da\n"), -1002);
        due("a byte of 0", recipeOf("da\0"), -1002);
    }

    @Says(promise = 0, words = ": ACTS one behind the other (one at least); an ACT: ")
    static void oneActAtLeast() {
        due("one", recipeOf("k"), 1);
        due("two", recipeOf("kk"), 2);
        due("w with none", recipeOf("wa()"), -1003);
        due("w with one", recipeOf("wa(k)"), 2);
        due("w with two", recipeOf("wa(kk)"), 3);
        due("i with none first", recipeOf("ia(:k)"), -1003);
        due("i with none then", recipeOf("ia(k:)"), -1005);
        due("i with one each", recipeOf("ia(k:k)"), 3);
        due("i without others", recipeOf("ia(k)"), -1004);
        due("i with a third", recipeOf("ia(k:k:k)"), -1006);
        due("w with others", recipeOf("wa(k:k)"), -1004);
        due("no ACT at all", recipeOf(")"), -1000);
    }

    @Says(promise = 0, words = "(the end, too; in a RECIPE of 120 bytes as told)")
    static void theEndCanNotStandThere() {
        String[] cut = {"d", "t", "p", "pa", "h", "ha", "w", "wa", "wa(", "wa(k", "i", "ia", "ia(", "ia(k", "ia(k:", "ia(k:k"};
        for (String s : cut) {
            due("the end of " + s, recipeOf(s), -1000 - s.length());
            int room = 120 - s.length();
            String full = many("k", room) + s;
            due("the end of 120 bytes with " + s, recipeOf(full), -1120);
            due("the end of 119 bytes with " + s, recipeOf(full.substring(1)), -1119);
        }
        String[] cutSpecs = {"a", "a<", "a<1|", "a<1&", "!", "(", "(a<1", "[", "[a", "[a]", "a+", "a*", "a<b+", "a<b%", "12345"};
        for (String s : cutSpecs) {
            due("the end of " + s, specOf(s), -1000 - s.length());
        }
        due("the end of 120 bytes", specOf("a=" + many("1+", 59)), -1120);
        due("the end of 119 bytes", specOf("a=11" + many("+1", 57) + "*"), -1119);
        // What waits on the tape behind the n bytes is no part of the TEXT.
        DyeVats x = new DyeVats();
        fed(x, "da");
        due("one byte of two", x.recipe(0, 1), -1001);
        fed(x, "a=A");
        due("two bytes of three", x.spec(2), -1002);
    }

    @Says(promise = 0, words = "FAULTS of both, the first from the left: 1 what can't stand there ")
    static void theFirstFaultFromTheLeft() {
        due("two of them", recipeOf("dgx"), -1001);
        due("at the first byte", recipeOf("xdg"), -1000);
        due("at the last byte", recipeOf("dadax"), -1004);
        due("what can't stand, then a seventh (", recipeOf("dg" + many("wa(", 7)), -1001);
        due("a seventh (, then what can't stand", recipeOf(many("wa(", 7) + "x"), -5020);
        due("a ) too many", recipeOf("wa(k))"), -1005);
        due("a : alone", recipeOf("k:k"), -1001);
        due("a ( alone", recipeOf("(k)"), -1000);
        due("a byte of 255", recipeOf(bytes('d', 255)), -1001);
        due("a byte of 'd' and 128", recipeOf(bytes('d' + 128, 'a')), -1000);
        due("a sixth digit, then what can't stand", specOf("a=123456x"), -2007);
        due("what can't stand, then a sixth digit", specOf("a=x123456"), -1002);
        due("a seventh !, then a sixth digit", specOf("!!!!!!!123456=1"), -5006);
        due("a sixth digit, then a seventh [", specOf("123456=[[[[[[[1"), -2005);
        due("two comparisons", specOf("a=b=c"), -1003);
        due("none", specOf("a|b=c"), -1001);
        due("a ) too many", specOf("a=b)"), -1003);
        due("a ] too many", specOf("a=b]"), -1003);
        due("a ( around a number", specOf("(1)=1"), -1002);
        due("a [ around a C", specOf("[a=b]"), -1002);
        due("a ! within a comparison", specOf("a!=b"), -1001);
        due("a - ahead", specOf("-a=b"), -1000);
    }

    @Says(promise = 0, words = "; 2 a sixth digit, at it;")
    static void fiveDigitsAndASixth() {
        due("one", specOf("9=9"), 1);
        due("five", specOf("99999=9"), 1);
        due("six", specOf("999999=9"), -2005);
        due("seven", specOf("9999999=9"), -2005);
        due("five noughts", specOf("00000=0"), 1);
        due("six noughts", specOf("000000=0"), -2005);
        due("behind a sign", specOf("1+999999=9"), -2007);
        due("in a [", specOf("[123456]=9"), -2006);
        due("on the right", specOf("a<000001"), -2007);
        due("a letter behind five", specOf("12345a=9"), -1005);
        due("two numbers of five", specOf("12345+12345=9"), 1);
    }

    @Says(promise = 0, words = " 5 a seventh of ( [ ! that are open in one another (in a RECIPE of ( alone), at it ")
    static void sixOpenAndASeventh() {
        due("six (", specOf("((((((a=A))))))"), 1);
        due("seven (", specOf("(((((((a=A)))))))"), -5006);
        due("six !", specOf("!!!!!!a=A"), 1);
        due("seven !", specOf("!!!!!!!a=A"), -5006);
        due("six [", specOf("[[[[[[a]]]]]]=A"), 1);
        due("seven [", specOf("[[[[[[[a]]]]]]]=A"), -5006);
        due("six of all", specOf("!(!([[a]]=A))"), 1);
        due("seven of all, at a [", specOf("!(!([[[a]]]=A))"), -5006);
        due("seven of all, at a (", specOf("!(!(!((a=A))))"), -5006);
        due("seven of all, at a !", specOf("!(!(!(!a=A)))"), -5006);
        due("six on the right", specOf("a=[[[[[[A]]]]]]"), 1);
        due("seven on the right", specOf("a=[[[[[[[A]]]]]]]"), -5008);
        due("six twice", specOf("((((((a=A))))))|((((((b=B))))))"), 1);
        due("six [ twice", specOf("[[[[[[a]]]]]]=[[[[[[A]]]]]]"), 1);
        due("seven, but where none can stand", specOf("((((((a(=A"), -1007);
        due("six ( of w", recipeOf(many("wa(", 6) + "k" + many(")", 6)), 7);
        due("seven ( of w", recipeOf(many("wa(", 7) + "k" + many(")", 7)), -5020);
        due("six ( of i", recipeOf(many("ia(", 6) + "k" + many(":k)", 6)), 13);
        due("seven ( of i", recipeOf(many("ia(", 7) + "k" + many(":k)", 7)), -5020);
        due("six ( in the others", recipeOf(many("ia(k:", 6) + "k" + many(")", 6)), 13);
        due("seven ( in the others", recipeOf(many("ia(k:", 7) + "k" + many(")", 7)), -5032);
        due("eight ( one behind the other", recipeOf(many("wa(k)", 8)), 16);
        due("six, closed one and opened one", recipeOf(many("wa(", 5) + "wb(k)wc(k)" + many(")", 5)), 9);
    }

    @Says(promise = 0, words = "(a ! is open till its PIECE ends).")
    static void aNotIsOpenTillItsPieceEnds() {
        due("six, then six", specOf("!!!!!!a=1&!!!!!!b=1"), 1);
        due("six, then six", specOf("!!!!!!a=1|!!!!!!b=1"), 1);
        due("five and a ( in it", specOf("!!!!!(a=1)"), 1);
        due("six and a ( in it", specOf("!!!!!!(a=1)"), -5006);
        due("five and a [ on the right of it", specOf("!!!!!a=[1]"), 1);
        due("six and a [ on the right of it", specOf("!!!!!!a=[1]"), -5008);
        due("six and a [ behind it", specOf("!!!!!!a=1&b=[1]"), 1);
        due("a ! before a ( that holds six", specOf("!((((((a=1))))))"), -5006);
        due("a ! before a ( that holds five", specOf("!(((((a=1)))))"), 1);
    }

    @Says(promise = 0, words = "A SPEC: a TEXT of at most 120 bytes, no blanks")
    static void specOfAtMost120BytesWithoutBlanks() {
        DyeVats x = new DyeVats();
        String long118 = "1=" + many("1+", 57) + "11";
        fed(x, many("1", 121));
        due("121 bytes", x.spec(121), -1);
        x.check(0);
        due("118 bytes", spec(x, long118), 1);
        due("119 bytes", spec(x, long118 + "1"), 1);
        due("120 bytes", spec(x, long118 + "11"), 1);
        due("120 bytes are asked", x.run(0, 1, 5), 0);
        due("120 bytes", spec(x, "60" + many("-1", 57) + "=3&"), -1119);
        due("120 bytes", spec(x, "63=1" + many("+1", 58)), 1);
        due("120 bytes are asked", x.run(0, 1, 5), 0);
        due("120 bytes", spec(x, "59=1" + many("+1", 58)), 1);
        due("120 bytes are asked", x.run(0, 1, 5), 1);
        due("a blank ahead", specOf(" a=A"), -1000);
        due("a blank within", specOf("a =A"), -1001);
        due("a blank behind", specOf("a=A "), -1003);
    }

    @Says(promise = 0, words = "(none at first: it always holds)")
    static void noSpecAlwaysHolds() {
        DyeVats x = new DyeVats();
        recipe(x, 0, "wa(k)da");
        due("of a RUN", x.run(0, 1, 5), 1);
        due("of none", x.run(1, 1, 5), 1);
        due("of BEGINNINGS", x.proved(0, 7, 2, -1), 0);
        due("of SLIPS", x.slips(0, 9, 0), 1);
        spec(x, "1=2");
        due("not with one", x.run(0, 1, 5), 0);
    }

    @Says(promise = 0, words = ": a C: PARTS with a | between two, one of which must hold; a PART: PIECES with an & between two, all of which must;")
    static void partsAndPieces() {
        hold("1=1", "1=1|1=2", "1=2|1=1", "1=1|1=2|1=2", "1=2|1=1|1=2", "1=2|1=2|1=1", "1=1&1=1", "1=2&1=1|1=1", "1=1|1=2&1=2", "1=1&1=1&1=1");
        holdNot("1=2", "1=2|1=2", "1=1&1=2", "1=2&1=1", "1=1&1=1&1=2", "1=1&1=2&1=1", "1=2&1=1&1=1", "1=2&1=1|1=1&1=2", "(1=1|1=1)&1=2", "1=2&(1=1|1=1)");
    }

    @Says(promise = 0, words = " a PIECE: !PIECE, (C), or E, one of < > =, and E.")
    static void pieces() {
        hold("1<2", "2>1", "2=2", "!2<2", "!2>2", "!1=2", "!2<1", "!1>2", "!!1=1", "!1=2&1=1", "!1=1|1=1", "!(1=1&1=2)", "(1=1)", "((1=1))", "!(!(1=1))");
        holdNot("2<2", "3<2", "2>2", "1>2", "1=2", "!1=1", "!!1=2", "!1=2&1=2", "!(1=1|1=2)");
    }

    @Says(promise = 0, words = " E: TERMS with + or - between two; a TERM: FACTORS with one of * / % between two; from the left on;")
    static void fromTheLeftOn() {
        hold("10-3-2=5", "10-3+2=9", "10+3-2=11", "24/4/2=3", "24/4*2=12", "3*7%4=1", "17%5*2=4", "7*3/2=10", "1+2*3=7", "2*3+1=7", "10-2*3=4", "[10-2]*3=24", "100%7%2=0");
        hold("[0-7]/2=0-3", "[0-7]%2=0-1", "7/[0-2]=0-3", "7%[0-2]=1", "[0-1]/2=0");
    }

    @Says(promise = 0, words = " a FACTOR: [E], a number of one to five digits, or a letter: a to f MEASURES at the beginning, A to F at the end,")
    static void lettersAToF() {
        hold("a=3", "b=2", "A=0", "B=9", "c=0", "[a]=3", "[a+b]*2=10", "99999=99998+1", "00012=12", "09=9");
        DyeVats x = holding(10, 11, 12, 13, 14, 15);
        recipe(x, 0, "dadbdcdddedf");
        for (int v = 0; v < 6; v++) {
            spec(x, bytes('a' + v, '=', '1', '0' + v));
            due("beginning " + v, x.run(0, 9, 5), 1);
            spec(x, bytes('A' + v, '=', '1', '1' + v));
            due("end " + v, x.run(0, 9, 5), 1);
        }
        due("ahead of a", specOf("`=1"), -1000);
        due("g", specOf("g=1"), -1000);
        due("ahead of A", specOf("@=1"), -1000);
        due("G", specOf("G=1"), -1000);
        due("a sign ahead of 0", specOf("a=/"), -1002);
        due("a sign behind 9", specOf("a=:"), -1002);
    }

    @Says(promise = 0, words = " s how much was SPILT, l how much went into the CLOTH, n STEPS, k how it ended.")
    static void lettersSLNK() {
        hold("s=3", "l=1", "n=10", "k=1");
        String[] ends = {"haahaa", "haak", "haahaahaa"};
        for (int i = 0; i < 3; i++) {
            DyeVats x = new DyeVats();
            recipe(x, 0, ends[i]);
            spec(x, "k=" + (i + 1));
            due("k of " + ends[i], x.run(0, 2, 5), 1);
            spec(x, "n=2&s=0&l=0");
            due("n of " + ends[i], x.run(0, 2, 5), 1);
        }
        String none = "SLNKmrjot";
        for (int i = 0; i < none.length(); i++) {
            due(none.charAt(i) + " is no letter of it", specOf("a=" + none.charAt(i)), -1002);
        }
    }

    private static final String GREATEST = "[[21474*10000+8364]*10+7]";
    private static final String LEAST = "[0-[21474*10000+8364]*10-8]";

    @Says(promise = 0, words = " All is reckoned with 32 bits, as the machine does;")
    static void with32Bits() {
        hold(GREATEST + ">0", GREATEST + "+1<0", GREATEST + "+1=" + LEAST, LEAST + "-1=" + GREATEST, LEAST + "<0", "0-" + LEAST + "=" + LEAST);
        hold(LEAST + "/[0-1]=" + LEAST, LEAST + "%[0-1]=0", "65536*65536=0", "65536*32768<0", "65536*32767>0", "46341*46341<0", "46340*46340>0", GREATEST + ">" + LEAST);
    }

    @Says(promise = 0, words = " what is divided by 0 is REFUSED: then a C does not hold.")
    static void dividedBy0() {
        holdNot("1/0=0", "1%0=0", "0/0=0", "0%0=0", "1/0=1", "!1/0=0", "!!1/0=0", "!(1/0=0)", "1/0=0|1=1", "1/0=0|1/0=1", "1=1&1/0=0", "1/A=0", "a/[a-3]=0", "[1/0]*0=0", "1=2|1/0=0|1=1", "1<1/0", "1>1%0");
        hold("1/1=1", "0/1=0", "1/[0-1]=0-1", "1%1=0", "0%1=0", "1/[1-0]=1");
        DyeVats x = new DyeVats();
        spec(x, "6/[a-2]>0");
        // a 2 is divided by 0; a 0 and 1 give less than 0, a 3 gives 6
        due("of BEGINNINGS", x.proved(0, 1, 3, -1), 3);
        // Of each 441 with one a: a 0 is divided by 0, a 1 alone holds.
        spec(x, "1+1/a=2");
        due("of many BEGINNINGS", x.proved(0, 7, 20, -1), 20 * 441);
    }

    @Says(promise = 0, words = " Of a C as much is asked, from the left, as matters.")
    static void asMuchAsMatters() {
        hold("1=1|1/0=0", "1=2&1/0=0|1=1", "(1=1|1/0=0)&1=1", "!(1=2&1/0=0)", "1=1|1=2&1/0=0", "1=1|(1/0=0)", "1=1|!1/0=0", "!1=1&1/0=0|1=1", "1=2|1=1|1/0=0", "1=1|1/0=0|1/0=0", "(1=2&1/0=0&1/0=0)|1=1");
        holdNot("1=2|1/0=0", "1=1&1/0=0|1=1", "1/0=0|1=1", "1/0=0&1=2|1=1", "1=2&1/0=0", "(1=2|1/0=0)|1=1");
    }

    @Says(promise = 3, words = "Twenty bytes come behind the tape, the highest of each int first: how many it has;")
    static void p03TwentyBytesTheHighestFirst() {
        DyeVats x = new DyeVats();
        due("at first", x.count(3), 0);
        due("twenty", x.feed('d' << 24 | 'a' << 16 | 'd' << 8 | 'b', 'd' << 24 | 'c' << 16 | 'd' << 8 | 'd', 'd' << 24 | 'e' << 16 | 'd' << 8 | 'f', 'd' << 24 | 'a' << 16 | 'd' << 8 | 'b', 'd' << 24 | 'a' << 16 | 'd' << 8 | 'a'), 20);
        due("twenty more behind", x.feed('k' << 24 | 'k' << 16 | 'x' << 8, 0, 0, 0, 0), 40);
        due("the byte behind all", x.recipe(0, 23), -1022);
        x.feed('d' << 24 | 'a' << 16 | 'd' << 8 | 'b', 'd' << 24 | 'c' << 16 | 'd' << 8 | 'd', 'd' << 24 | 'e' << 16 | 'd' << 8 | 'f', 'd' << 24 | 'a' << 16 | 'd' << 8 | 'b', 'd' << 24 | 'a' << 16 | 'd' << 8 | 'a');
        due("all twenty", x.recipe(0, 20), 10);
        int[] dips = {4, 2, 1, 1, 1, 1};
        for (int v = 0; v < 6; v++) {
            due("dips of " + v, x.run(0, 99, 10 + v), dips[v]);
        }
        x.feed(-1, HIGH, LOW, 0, 1);
        x.vat(0, 0, 99, 1);
        due("a number below 0", x.check(1), 0);
        x.feed(1, 0, 0, 0, -1);
        due("four numbers", x.check(5), 4);
        x.feed(1, 0, 0, 0, 0);
        due("five numbers", x.check(5), -1);
    }

    @Says(promise = 3, words = " NONE if that would be more than 160.")
    static void p03NoneAbove160() {
        DyeVats x = new DyeVats();
        for (int i = 1; i <= 8; i++) {
            due("feed " + i, x.feed(0x64616462, 0x64616462, 0x64616462, 0x64616462, 0x64616462), 20 * i);
        }
        due("the ninth", x.feed(0, 0, 0, 0, 0), -1);
        due("as many as before", x.count(3), 160);
        due("once more", x.feed(0, 0, 0, 0, 0), -1);
        due("none of it was changed", x.recipe(0, 120), 60);
        due("room again", x.feed(0, 0, 0, 0, 0), 20);
        unchanged("a feed that is refused", EdgesOfTexts::withFullTape, y -> due("full", y.feed(0, 0, 0, 0, 0), -1));
    }

    private static DyeVats withFullTape() {
        DyeVats x = busy();
        for (int i = 0; i < 6; i++) {
            x.feed(0, 0, 0, 0, 0);
        }
        return x;
    }

    @Says(promise = 4, words = "RECIPE w by the first n bytes of the tape (1 to 120; empty then)")
    static void p04FirstNBytesFrom1To120() {
        DyeVats x = new DyeVats();
        String text = many("k", 160);
        int[] good = {1, 2, 119, 120};
        for (int n : good) {
            fed(x, text);
            due("n " + n, x.recipe(0, n), n);
            due("empty then", x.count(3), 0);
        }
        int[] bad = {LOW, -1, 0, 121, 122, 160, 161, HIGH};
        fed(x, text);
        for (int n : bad) {
            due("n " + n, x.recipe(0, n), -1);
            due("the tape stays", x.count(3), 160);
        }
        due("the recipe of before", x.count(40), 120);
    }

    @Says(promise = 4, words = ", in place of the one before: how many ACTS (all, tests too);")
    static void p04HowManyActs() {
        String[] texts = {"k", "da", "ta", "pab", "hab", "wa(k)", "ia(k:k)", "datapabhabwa(ta)ia(da:ta)k", "wa(wa(wa(k)))"};
        int[] acts = {1, 1, 1, 1, 1, 2, 3, 10, 4};
        DyeVats x = new DyeVats();
        for (int i = 0; i < texts.length; i++) {
            due(texts[i], recipe(x, 1, texts[i]), acts[i]);
            due("count", x.count(41), acts[i]);
        }
        due("the most", recipe(x, 1, many("k", 120)), 120);
        due("others are not told", x.count(40) + x.count(42), 0);
        recipe(x, 1, "da");
        due("in place of the one before", x.run(1, 9, 1), 1);
        due("in place of the one before", x.run(1, 9, 0), 1);
    }

    @Says(promise = 4, words = " a FAULT: -1000 times its number, less its place (the one before stays);")
    static void p04FaultLeavesTheOneBefore() {
        due("place 0", recipeOf("x"), -1000);
        due("place 1", recipeOf("dx"), -1001);
        due("place 119", recipeOf(many("k", 119) + "x"), -1119);
        due("place 120", recipeOf(many("k", 119) + "d"), -1120);
        due("number 5", recipeOf(many("wa(", 7)), -5020);
        due("number 5, farther on", recipeOf(many("k", 99) + many("wa(", 7)), -5119);
        String[] faults = {"x", "dadbx", "wa(tb", many("ia(", 7), "tatatata)"};
        for (String s : faults) {
            for (int w = 0; w < 3; w++) {
                int of = w;
                onlyEmpties(s, Town::busyWithoutTape, x -> recipe(x, of, s));
            }
        }
    }

    @Says(promise = 4, words = " NONE: no such ones, it has not so many (the tape stays).")
    static void p04NoneLeavesAll() {
        int[][] bad = {{-1, 4}, {3, 4}, {LOW, 4}, {HIGH, 4}, {0, 0}, {0, -1}, {0, 41}, {0, 120}, {0, 121}, {0, HIGH}, {3, 0}};
        for (int[] b : bad) {
            unchanged("recipe(" + b[0] + ", " + b[1] + ")", Town::busy, x -> due("refused", x.recipe(b[0], b[1]), -1));
        }
        unchanged("no tape", Town::busyWithoutTape, x -> due("refused", x.recipe(0, 1), -1));
        DyeVats x = new DyeVats();
        x.feed(0x6b6b6b6b, 0x6b6b6b6b, 0x6b6b6b6b, 0x6b6b6b6b, 0x6b6b6b6b);
        due("21 of 20", x.recipe(0, 21), -1);
        due("20 of 20", x.recipe(0, 20), 20);
        due("1 of 0", x.recipe(0, 1), -1);
    }

    @Says(promise = 5, words = "The SPEC by the first n bytes of the tape (1 to 120; empty then)")
    static void p05FirstNBytesFrom1To120() {
        DyeVats x = new DyeVats();
        String text = "1=1" + many("+1", 78);
        int[] good = {3, 5, 119};
        for (int n : good) {
            fed(x, text);
            due("n " + n, x.spec(n), 1);
            due("empty then", x.count(3), 0);
        }
        fed(x, text);
        due("n 1", x.spec(1), -1001);
        fed(x, text);
        due("n 120", x.spec(120), -1120);
        due("n 120", spec(x, "11" + text.substring(1, 119)), 1);
        int[] bad = {LOW, -1, 0, 121, 122, 159, HIGH};
        fed(x, text);
        for (int n : bad) {
            due("n " + n, x.spec(n), -1);
            due("the tape stays", x.count(3), 160);
        }
    }

    @Says(promise = 5, words = ", in place of the one before: 1;")
    static void p05InPlaceOfTheOneBefore() {
        DyeVats x = new DyeVats();
        due("read", spec(x, "1=2"), 1);
        due("it does not hold", x.run(0, 1, 5), 0);
        due("read", spec(x, "1=1"), 1);
        due("it holds", x.run(0, 1, 5), 1);
        due("a longer one", spec(x, "1=1&1=1&1=1&1=2"), 1);
        due("it does not hold", x.run(0, 1, 5), 0);
        due("a shorter one", spec(x, "1=1"), 1);
        due("it holds", x.run(0, 1, 5), 1);
        // What the ones before had behind the last PIECE is no part of the new one.
        String[] before = {"1=1|!1=2", "1=1|1=2&1=2", "1=1|1=2|1=2", "1=1|1+1=2", "1=1|1=1+1"};
        for (String s : before) {
            spec(x, s);
            spec(x, s);
            spec(x, "1=1|1=2");
            due("behind " + s, x.run(0, 1, 5), 1);
            spec(x, "1=2&1=1");
            due("behind " + s, x.run(0, 1, 5), 0);
        }
    }

    @Says(promise = 5, words = " a FAULT: as above (the one before stays);")
    static void p05FaultLeavesTheOneBefore() {
        due("place 0", specOf("x=1"), -1000);
        due("place 119", specOf("1=1" + many("+1", 58) + "x"), -1119);
        due("place 120", specOf("1=1" + many("+1", 58) + "+"), -1120);
        due("number 2, at the last place", specOf("1=1" + many("+1", 55) + "+123456"), -2119);
        due("number 5, at the last place", specOf("1=" + many("1+", 54) + "11+" + many("[", 7)), -5119);
        due("the end behind a sixth [", specOf("1=" + many("1+", 56) + many("[", 6)), -1120);
        String[] faults = {"x", "a=A|", "1=1&123456=1", "!!!!!!!1=1", "1=2)"};
        for (String s : faults) {
            onlyEmpties(s, Town::busyWithoutTape, x -> spec(x, s));
        }
    }

    @Says(promise = 5, words = " NONE: no such n, it has not so many (the tape stays).")
    static void p05NoneLeavesAll() {
        int[] bad = {LOW, -1, 0, 41, 120, 121, HIGH};
        for (int n : bad) {
            unchanged("spec(" + n + ")", Town::busy, x -> due("refused", x.spec(n), -1));
        }
        unchanged("no tape", Town::busyWithoutTape, x -> due("refused", x.spec(1), -1));
        DyeVats x = new DyeVats();
        fed(x, "1=1+1+1+1+1+1+1+1+11");
        due("21 of 20", x.spec(21), -1);
        due("20 of 20", x.spec(20), 1);
    }
}
