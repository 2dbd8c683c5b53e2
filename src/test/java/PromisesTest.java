/** Promise by promise: ordinary inputs, the edges that the document names, wrong inputs. */
public final class PromisesTest extends Town {
    private static int wrong = 0;

    private static void due(int promise, String what, int got, int want) {
        if (got != want) { wrong++; System.out.println("promise " + promise + ": " + what + " answered " + got + ", due is " + want); }
    }
    private static void due(int promise, String what, boolean got, boolean want) { due(promise, what, got ? 1 : 0, want ? 1 : 0); }

    private static boolean holds(String s) {
        DyeVats x = new DyeVats();
        x.vat(0, 0, 9, 3);
        x.vat(1, 0, 9, 2);
        recipe(x, 0, "tapabdbdbdbdbdbdbdbdb");
        if (spec(x, s) != 1) { wrong++; System.out.println("promise 5: " + s + " is refused"); }
        return x.run(0, 100, 5) == 1;
    }

    public static void main(String[] args) {
        newObject(); vats(); tape(); recipes(); recipeFaults(); specFaults(); specValues(); runs(); kinds(); done();
        proved(); alike(); fit(); rounds(); roundEdges(); shortestRows(); slips(); sums(); orders(); nights(); keptAndUndone(); checks(); counts();
        System.out.println(wrong == 0 ? "all promises are kept" : wrong + " answers are not as due");
        if (wrong != 0) System.exit(1);
    }

    private static void newObject() {
        DyeVats x = new DyeVats();
        for (int v = 0; v < 6; v++) {
            due(1, "measure", x.count(10 + v), 0);
            due(1, "brim", x.count(20 + v), 99);
            due(1, "kind", x.count(30 + v), 0);
        }
        for (int w = 0; w < 3; w++) {
            due(1, "acts", x.count(40 + w), 0);
            due(1, "ends at once", x.run(w, 1, 0), 1);
            due(1, "no steps", x.run(w, 1, 1), 0);
            due(1, "a spec that always holds", x.run(w, 1, 5), 1);
        }
        for (int what = 0; what <= 6; what++) due(1, "count(" + what + ")", x.count(what), what == 4 ? 1 : 0);
        due(1, "NONE", DyeVats.NONE, -1);
    }

    private static void vats() {
        DyeVats x = new DyeVats();
        due(2, "vat f", x.vat(5, 3, 99, 99), true);
        due(2, "its measure", x.count(15), 99);
        due(2, "its kind", x.count(35), 3);
        due(2, "vat a with no room", x.vat(0, 1, 0, 0), true);
        due(2, "its brim", x.count(20), 0);
        int[][] bad = {{-1, 0, 9, 0}, {6, 0, 9, 0}, {0, -1, 9, 0}, {0, 4, 9, 0}, {0, 0, -1, 0}, {0, 0, 100, 0}, {0, 0, 9, -1}, {0, 0, 9, 10},
            {LOW, 0, 9, 0}, {HIGH, 0, 9, 0}, {0, 0, HIGH, 5}, {0, 0, LOW, LOW}};
        for (int[] b : bad) due(2, "no such vat", x.vat(b[0], b[1], b[2], b[3]), false);
        due(2, "refused: brim as before", x.count(20), 0);
        due(2, "refused: kind as before", x.count(30), 1);
    }

    private static void tape() {
        DyeVats x = new DyeVats();
        for (int i = 1; i <= 8; i++) due(3, "feed", x.feed(1, 2, 3, 4, 5), 20 * i);
        due(3, "too many", x.feed(1, 2, 3, 4, 5), -1);
        due(3, "nothing came behind", x.count(3), 160);
        x = new DyeVats();
        // d b t c: the highest byte of each int comes first, ints one behind the other
        x.feed('d' << 24 | 'b' << 16 | 't' << 8 | 'c', 'k' << 24, 0, 0, 0);
        due(3, "bytes by their order", x.recipe(0, 5), 3);
        due(3, "the first act is db", x.run(0, 1, 11), 1);
        x.feed(-1, -1, -1, -1, -1);
        due(3, "a byte above 127", x.recipe(0, 1), -1000);
    }

    private static void recipes() {
        DyeVats x = new DyeVats();
        due(4, "d", recipe(x, 0, "da"), 1);
        due(4, "all kinds of acts", recipe(x, 0, "datapabhcdwa(ta)ib(k:tb)k"), 10);
        due(4, "count", x.count(40), 10);
        due(4, "a text of 120", recipe(x, 2, many("dc", 60)), 60);
        due(4, "120 steps of it", x.run(2, 100, 12), 60);
        fed(x, many("da", 60));
        due(4, "the tape may have more", x.recipe(1, 2), 1);
        due(4, "but is empty then", x.count(3), 0);
        fed(x, "da");
        due(4, "no such recipe", x.recipe(-1, 2), -1);
        due(4, "no such recipe", x.recipe(3, 2), -1);
        due(4, "no such n", x.recipe(0, 0), -1);
        due(4, "no such n", x.recipe(0, LOW), -1);
        due(4, "not so many", x.recipe(0, 21), -1);
        due(4, "the tape stays", x.count(3), 20);
        x.recipe(0, 2);
        fed(x, many("da", 70));
        due(4, "no such n", x.recipe(0, 121), -1);
        due(4, "the tape stays", x.count(3), 140);
        due(4, "in place of the one before", x.recipe(2, 4), 2);
        due(4, "count", x.count(42), 2);
        due(4, "refused", recipe(x, 2, "dcdcx"), -1004);
        due(4, "the one before stays", x.count(42), 2);
        due(4, "and runs", x.run(2, 100, 10), 2);
        due(4, "the tape is empty behind a fault", x.count(3), 0);
    }

    private static void recipeFaults() {
        DyeVats x = new DyeVats();
        String[] texts = {"x", "d", "dg", "dA", "da ", " da", "p", "pa", "pag", "h", "haA", "w", "wa", "wa)", "wa(", "wa()", "wa(k", "wa(k:", "wa(k:k)", "i", "ia", "ia(",
            "ia(:k)", "ia(k)", "ia(k:", "ia(k:)", "ia(k:k", "ia(k:k:k)", "k)", "k:", "wa(k)x", "(", "wa(ib(k)", "wa(ib(k:k)"};
        int[] places = {0, 1, 1, 1, 2, 0, 1, 2, 2, 1, 2, 1, 2, 2, 3, 3, 4, 4, 4, 1, 2, 3, 3, 4, 5, 5, 6, 6, 1, 1, 5, 0, 7, 10};
        for (int i = 0; i < texts.length; i++) due(4, texts[i], recipe(x, 0, texts[i]), -1000 - places[i]);
        due(4, "the end of 120 bytes", recipe(x, 0, many("da", 59) + "kd"), -1120);
        due(4, "six open", recipe(x, 0, many("wa(", 6) + "k" + many(")", 6)), 7);
        due(4, "a seventh", recipe(x, 0, many("wa(", 7) + "k" + many(")", 7)), -5020);
        due(4, "a seventh, though no end", recipe(x, 0, many("ia(", 7)), -5020);
        due(4, "one behind the other", recipe(x, 0, many("wa(k)", 8)), 16);
        due(4, "a seventh in an other part", recipe(x, 0, many("ia(k:", 6) + "wa("), -5032);
        due(4, "what can't stand is first", recipe(x, 0, many("wa(", 6) + "waa"), -1020);
    }

    private static void specFaults() {
        DyeVats x = new DyeVats();
        String[] good = {"a=A", "!a=A", "!!a=A", "(a=A)", "a=A|b=B&c=C", "a+b-c*d/e%f=12345", "[a]=[[b]+1]", "s+l+n+k>0", "((((((a=A))))))", "!!!!!!a=A", "[[[[[[a]]]]]]=A",
            "!(!(!(a=A)))", "(!a=[[[[1]]]])", "!a=[1]&!b=[1]&!c=[1]&!d=[1]", "00000=0"};
        for (String s : good) due(5, s, spec(x, s), 1);
        String[] bad = {"", "x=A", "a", "a=", "a=A)", "(a=A", "(a=A]", "a=A|", "a=A&", "a<=A", "a==A", "!", "a!=A", "[a=A", "[a)=A", "a+=A", "a=A+", "-a=A", "a=-1", "(a)=A", "a=(A)", "a= A",
            "a=g", "a=S", "ab=A", "1a=A", "a=A=b", "[a=A]", "a=A b=B", "a=m"};
        int[] places = {0, 0, 1, 2, 3, 4, 4, 4, 4, 2, 2, 1, 1, 2, 2, 2, 4, 0, 2, 2, 2, 2, 2, 2, 1, 1, 3, 2, 3, 2};
        for (int i = 1; i < bad.length; i++) due(5, bad[i], spec(x, bad[i]), -1000 - places[i]);
        due(5, "a sixth digit", spec(x, "123456=a"), -2005);
        due(5, "a sixth digit", spec(x, "a=1234567"), -2007);
        due(5, "a sixth digit", spec(x, "a=123450"), -2007);
        due(5, "a seventh (", spec(x, "(((((((a=A"), -5006);
        due(5, "a seventh !", spec(x, "!!!!!!!a=A"), -5006);
        due(5, "a seventh [", spec(x, "[[[[[[[a"), -5006);
        due(5, "all of them together", spec(x, "!(!(!([a]=A)))"), -5006);
        due(5, "all of them together", spec(x, "!!!!!!a=[1]"), -5008);
        due(5, "behind a PIECE a ! is closed", spec(x, "!!!!!!a=1&!!!!!!b=1"), 1);
        due(5, "the end of 120 bytes", spec(x, "a=" + many("1+", 59)), -1120);
        due(5, "120 bytes", spec(x, "a=" + many("1+", 58) + "11"), 1);
        fed(x, "a=A");
        due(5, "no such n", x.spec(0), -1);
        due(5, "no such n", x.spec(-3), -1);
        due(5, "not so many", x.spec(21), -1);
        due(5, "the tape stays", x.count(3), 20);
        fed(x, many("a", 120));
        due(5, "no such n", x.spec(121), -1);
        due(5, "the tape stays", x.count(3), 140);
        due(5, "a spec from it", x.spec(3), 1);
        due(5, "empty then", x.count(3), 0);
        spec(x, "1=2");
        due(5, "a fault", spec(x, "1=1|"), -1004);
        due(5, "the tape is empty behind a fault", x.count(3), 0);
        due(5, "the one before stays", x.run(0, 1, 5), 0);
        spec(x, "1=1");
        due(5, "in place of the one before", x.run(0, 1, 5), 1);
    }

    // a 3, b 2 at the beginning; ta pab: a 0, b 4; eight DIPS: b 9, three SPILT; ten STEPS, one into the CLOTH
    private static void specValues() {
        String[] yes = {"a=3", "b=2", "c=0", "A=0", "B=9", "s=3", "l=1", "n=10", "k=1", "1<2", "2>1", "!1>1", "1+2*3=7", "[1+2]*3=9", "10-3-2=5", "24/4/2=3", "24/4*2=12", "17%5*2=4", "7-8<0",
            "[1-8]/2=0-3", "[1-8]%2=0-1", "50000*50000<0", "1=2|1=1", "1=1|1=2&1=2", "!1=2&1=1", "!(1=1&1=2)", "!!1=1",
            "1=1|1/0=1", "!(1=2&1/0=1)", "1=2&1/0=1|1=1", "(1=1|1/0=1)&2=2", "a+b=5&B>a*2|1/0=0"};
        for (String s : yes) due(5, s, holds(s), true);
        String[] no = {"a=2", "1<1", "1>1", "1=2", "!1=1", "1=1&1=2", "1=2|1=3", "(1=2|1=1)&1=3", "1/0=0", "1%0=0", "!1/0=0", "!(1/0=0)", "1/0=0|1=1", "(1/0=0)|1=1", "1=1&1/[a-3]=0", "!(!(a/A=0))",
            "a/A=1|a/A=2|1=1"};
        for (String s : no) due(5, s, holds(s), false);
        DyeVats x = new DyeVats();
        for (int v = 0; v < 6; v++) x.vat(v, 0, 99, 10 + v);
        recipe(x, 0, "dadbdcdddedf");
        spec(x, "a=10&b=11&c=12&d=13&e=14&f=15&A=11&B=12&C=13&D=14&E=15&F=16");
        due(5, "all letters", x.run(0, 100, 5), 1);
        due(5, "32 bits", holds("99999*99999=[14098*10000+6540]*10+9"), true);
        due(5, "32 bits around", holds("[32768*65535+32767]*2+1=0-1"), true);
        due(5, "the least number by -1", holds("[32768*65536]/[0-1]=32768*65536&[32768*65536]%[0-1]=0"), true);
    }

    private static void runs() {
        DyeVats x = new DyeVats();
        recipe(x, 0, "wa(tadb)");
        x.vat(0, 0, 99, 3);
        due(6, "ends", x.run(0, 20000, 0), 1);
        due(6, "steps", x.run(0, 20000, 1), 10);
        due(6, "at the limit", x.run(0, 10, 0), 1);
        due(6, "one less", x.run(0, 9, 0), 3);
        due(6, "its steps", x.run(0, 9, 1), 9);
        due(6, "limit 1", x.run(0, 1, 1), 1);
        due(6, "cloth", x.run(0, 10, 3), 3);
        due(6, "colour", x.run(0, 10, 4), 57);
        due(6, "a", x.run(0, 10, 10), 0);
        due(6, "b", x.run(0, 10, 11), 3);
        due(6, "nothing is changed", x.count(10), 3);
        due(6, "nothing is spilt", x.count(1), 0);
        recipe(x, 1, "tfdedetetetekda");
        due(6, "k ends", x.run(1, 100, 0), 2);
        due(6, "k is a step", x.run(1, 100, 1), 7);
        due(6, "k at the limit", x.run(1, 7, 0), 2);
        due(6, "k behind the limit", x.run(1, 6, 0), 3);
        due(6, "two taken", x.run(1, 100, 3), 2);
        due(6, "colour by vats, none by empty ones", x.run(1, 100, 4), 5 * 7 + 5);
        recipe(x, 1, many("dftf", 30));
        int c = 0;
        for (int i = 0; i < 30; i++) c = (7 * c + 6) % 1009;
        due(6, "colour modulo 1009", x.run(1, 100, 4), c);
        x.vat(2, 0, 5, 5);
        recipe(x, 1, "dcdc");
        due(6, "spilt at the brim", x.run(1, 100, 2), 2);
        due(6, "at the brim", x.run(1, 100, 12), 5);
        x.vat(3, 0, 9, 7);
        recipe(x, 1, "pdcpccpaa");
        due(6, "no room", x.run(1, 100, 13), 7);
        due(6, "of one and the same nothing", x.run(1, 100, 12), 5);
        x.vat(2, 0, 5, 3);
        due(6, "as far as there is room", x.run(1, 100, 12), 5);
        due(6, "the rest stays", x.run(1, 100, 13), 5);
        recipe(x, 1, "hdehaa");
        due(6, "half rounded down", x.run(1, 100, 14), 3);
        due(6, "the other half", x.run(1, 100, 13), 4);
        due(6, "of one and the same nothing", x.run(1, 100, 10), 3);
        recipe(x, 1, "hdc");
        due(6, "half as far as there is room", x.run(1, 100, 12), 5);
        due(6, "the rest of it", x.run(1, 100, 13), 5);
        recipe(x, 1, "ia(db:dc)if(db:dbdb)");
        due(6, "tests", x.run(1, 100, 11), 3);
        due(6, "tests are steps", x.run(1, 100, 1), 5);
        recipe(x, 1, "wa(tawb(tb)ia(db:k))dd");
        due(6, "nested", x.run(1, 100, 0), 2);
        due(6, "nested steps", x.run(1, 100, 1), 19);
        longRun(20000);
        longRun(19999);
        longRun(1234);
        longRun(17);
        int[][] bad = {{-1, 1, 0}, {3, 1, 0}, {0, 0, 0}, {0, 20001, 0}, {0, LOW, 0}, {0, 1, -1}, {0, 1, 6}, {0, 1, 9}, {0, 1, 16}, {0, 1, HIGH}};
        for (int[] b : bad) due(6, "no such ones", x.run(b[0], b[1], b[2]), -1);
        spec(x, "k=3");
        due(6, "the spec holds", x.run(0, 3, 5), 1);
        due(6, "the spec does not", x.run(0, 30, 5), 0);
    }

    // A ROUND of eight STEPS, reckoned here STEP by STEP: two TAKEN, one SPILT at the BRIM, one by a leak.
    private static void longRun(int limit) {
        DyeVats x = new DyeVats();
        x.vat(0, 0, 9, 1);
        x.vat(1, 0, 9, 5);
        x.vat(2, 0, 9, 5);
        x.vat(3, 0, 2, 2);
        x.vat(4, 1, 9, 0);
        recipe(x, 0, "wa(tbdbtcdcdddetf)");
        int spilt = 0, cloth = 0, colour = 0;
        for (int n = 0; n < limit; n++) {
            if (n % 8 == 1 || n % 8 == 3) { cloth++; colour = (7 * colour + (n % 8 == 1 ? 2 : 3)) % 1009; }
            if (n % 8 == 5 || n % 8 == 6) spilt++;
        }
        due(6, "a long run ends", x.run(0, limit, 0), 3);
        due(6, "its steps", x.run(0, limit, 1), limit);
        due(6, "its spilt", x.run(0, limit, 2), spilt);
        due(6, "its cloth", x.run(0, limit, 3), cloth);
        due(6, "its colour", x.run(0, limit, 4), colour);
        due(6, "b", x.run(0, limit, 11), limit % 8 == 2 ? 4 : 5);
        due(6, "c", x.run(0, limit, 12), limit % 8 == 4 ? 4 : 5);
        x.done(0, limit);
        due(7, "its colour", x.count(2), colour);
        recipe(x, 1, "tadadbtbdddd" + "wa(tbdbtcdcdddetf)");
        x.vat(1, 0, 9, 5);
        x.vat(2, 0, 9, 5);
        colour = 0;
        for (int n = 0; n < limit; n++) {
            int v = n == 0 ? 0 : n == 3 || n > 5 && n % 8 == 7 ? 1 : n > 5 && n % 8 == 1 ? 2 : -1;
            if (v >= 0) colour = (7 * colour + v + 1) % 1009;
        }
        int rounds = (limit - 6) / 8, rest = (limit - 6) % 8;
        due(6, "with a way ahead: spilt", x.run(1, limit, 2), 2 + 2 * rounds + Math.max(0, Math.min(2, rest - 5)));
        due(6, "with a way ahead: cloth", x.run(1, limit, 3), 2 + 2 * rounds + (rest > 3 ? 2 : rest > 1 ? 1 : 0));
        due(6, "with a way ahead: colour", x.run(1, limit, 4), colour);
        due(6, "with a way ahead: steps", x.run(1, limit, 1), limit);
        x.vat(1, 0, 9, 5);
        x.vat(2, 0, 9, 5);
        colour = x.count(2);
        x.done(0, 8);
        due(7, "its colour goes on", x.count(2), (7 * ((7 * colour + 2) % 1009) + 3) % 1009);
    }

    private static void kinds() {
        DyeVats x = new DyeVats();
        x.vat(0, 1, 9, 3);
        recipe(x, 0, "wa(db)");
        due(6, "a leak behind each step, behind tests too", x.run(0, 100, 1), 5);
        due(6, "leaks are spilt", x.run(0, 100, 2), 3);
        due(6, "an empty one leaks nothing", x.run(0, 100, 10), 0);
        x.vat(0, 2, 9, 3);
        due(6, "blind: while ends at once", x.run(0, 100, 1), 1);
        recipe(x, 0, "ia(db:dc)ta");
        due(6, "blind: the others", x.run(0, 100, 12), 1);
        due(6, "blind: but it can be taken", x.run(0, 100, 10), 2);
        // joined a and b: 6 4 0: a over into b (5 5 0), then b over into c (5 4 1)
        x.vat(0, 3, 9, 6);
        x.vat(1, 3, 9, 4);
        recipe(x, 0, "k");
        due(6, "joined a", x.run(0, 9, 10), 5);
        due(6, "joined b", x.run(0, 9, 11), 4);
        due(6, "joined c", x.run(0, 9, 12), 1);
        x.vat(1, 0, 9, 5);
        due(6, "one more is not two", x.run(0, 9, 10), 6);
        x.vat(1, 0, 3, 3);
        due(6, "no room", x.run(0, 9, 10), 6);
        x.vat(4, 3, 9, 4);
        due(6, "e joined with f", x.run(0, 9, 15), 1);
        x.vat(4, 0, 9, 0);
        x.vat(5, 3, 9, 8);
        due(6, "f joined with a", x.run(0, 9, 15), 7);
        due(6, "into a", x.run(0, 9, 10), 7);
        due(6, "of joined ones nothing is spilt", x.run(0, 9, 2), 0);
        // a leaks first: f 4, a 3 - 1: two more, one goes over
        x.vat(0, 1, 9, 3);
        x.vat(5, 3, 9, 4);
        due(6, "behind all leaks", x.run(0, 9, 15), 3);
        due(6, "behind all leaks", x.run(0, 9, 10), 3);
    }

    private static void done() {
        DyeVats x = new DyeVats();
        x.vat(0, 0, 9, 3);
        x.vat(1, 0, 4, 2);
        recipe(x, 0, "wa(tadb)");
        due(7, "no such", x.done(-1, 5), -1);
        due(7, "no such", x.done(3, 5), -1);
        due(7, "no such", x.done(0, 0), -1);
        due(7, "no such", x.done(0, 20001), -1);
        due(7, "by a limit", x.done(0, 4), 3);
        due(7, "measures stay", x.count(10), 2);
        due(7, "from the first act on", x.done(0, 20000), 1);
        due(7, "a", x.count(10), 0);
        due(7, "b", x.count(11), 4);
        due(7, "spilt", x.count(0), 1);
        due(7, "cloth", x.count(1), 3);
        due(7, "the colour goes on", x.count(2), 57);
        due(7, "a run begins anew", x.run(0, 5, 4), 0);
        x.vat(0, 0, 9, 1);
        x.done(0, 100);
        due(7, "the colour goes on", x.count(2), (57 * 7 + 1) % 1009);
        due(7, "spilt goes on", x.count(0), 2);
        recipe(x, 1, "k");
        due(7, "by k", x.done(1, 1), 2);
    }

    private static void proved() {
        DyeVats x = new DyeVats();
        recipe(x, 0, "wa(tadb)");
        x.vat(0, 0, 99, 50);
        x.vat(1, 0, 9, 2);
        x.vat(3, 0, 2, 1);
        due(8, "with no spec", x.proved(0, 3, 20, -1), 0);
        spec(x, "B=a+b");
        due(8, "how many", x.proved(0, 1, 20, -1), 13);
        due(8, "the first", x.proved(0, 1, 20, 0), 8);
        due(8, "all others as they are", x.proved(0, 1, 20, 1), 2);
        due(8, "all others as they are", x.proved(0, 1, 20, 3), 1);
        due(8, "none", x.proved(0, 1, 7, 0), -2);
        due(8, "how many: none", x.proved(0, 1, 7, -1), 0);
        spec(x, "a=0");
        due(8, "as far as the brim", x.proved(0, 8 + 2, 20, -1), 30);
        due(8, "three vats", x.proved(1, 1 + 2 + 8, 20, -1), 20 * 10 * 3);
        spec(x, "a<2|d<1|b<3");
        due(8, "the lowest is slowest", x.proved(1, 11, 20, 0), 2);
        due(8, "the middle one", x.proved(1, 11, 20, 1), 3);
        due(8, "the highest is fastest", x.proved(1, 11, 20, 3), 1);
        spec(x, "k=1");
        recipe(x, 2, "wa(taib(wb(tadb):k))");
        due(8, "runs by 2000 steps", x.proved(2, 1, 20, -1), 20);
        spec(x, "!k=3|n=2000");
        due(8, "the limit is 2000", x.proved(2, 3, 20, -1), 0);
        int[][] bad = {{-1, 1, 1, 0}, {3, 1, 1, 0}, {0, 0, 1, 0}, {0, 64, 1, 0}, {0, -1, 1, 0}, {0, 15, 1, 0}, {0, 63, 1, 0}, {0, 1, 0, 0}, {0, 1, 21, 0}, {0, 1, 1, -2}, {0, 1, 1, 6}, {0, LOW, 1, 0}};
        for (int[] b : bad) due(8, "no such ones", x.proved(b[0], b[1], b[2], b[3]), -3);
        due(8, "nothing is changed", x.count(10), 50);
        x = new DyeVats();
        x.vat(5, 0, 1, 1);
        spec(x, "f=9");
        due(8, "a bound of 1", x.proved(0, 32 + 16, 1, -1), 4);
        due(8, "from 0 on", x.proved(0, 32 + 16, 1, 5), 0);
        spec(x, "f=0");
        due(8, "f", x.proved(0, 32, 20, 5), 1);
        due(8, "f", x.proved(0, 32, 20, -1), 1);
        spec(x, "f=0|e=0");
        due(8, "e first", x.proved(0, 48, 20, 4), 1);
        due(8, "then f", x.proved(0, 48, 20, 5), 1);
        due(8, "how many", x.proved(0, 48, 20, -1), 20);
    }

    private static void alike() {
        DyeVats x = new DyeVats();
        recipe(x, 0, "wa(tadb)");
        recipe(x, 1, "pab");
        x.vat(1, 0, 9, 0);
        due(9, "how many", x.alike(0, 1, 1, 20, -1), 11);
        due(9, "the first", x.alike(0, 1, 1, 20, 0), 10);
        due(9, "none", x.alike(0, 1, 1, 9, 0), -2);
        due(9, "with itself", x.alike(0, 0, 7, 20, -1), 0);
        recipe(x, 2, "pabk");
        due(9, "how it ended", x.alike(1, 2, 1, 3, -1), 4);
        recipe(x, 2, "dctcpab");
        due(9, "steps and cloth do not matter", x.alike(1, 2, 3, 20, -1), 0);
        due(9, "both ways", x.alike(1, 0, 1, 20, 0), 10);
        int[][] bad = {{-1, 0, 1, 1, 0}, {3, 0, 1, 1, 0}, {0, -1, 1, 1, 0}, {0, 3, 1, 1, 0}, {0, 0, 0, 1, 0}, {0, 0, 15, 1, 0}, {0, 0, 64, 1, 0}, {0, 0, 1, 0, 0}, {0, 0, 1, 21, 0}, {0, 0, 1, 1, -2}, {0, 0, 1, 1, 6}};
        for (int[] b : bad) due(9, "no such ones", x.alike(b[0], b[1], b[2], b[3], b[4]), -3);
    }

    private static void fit() {
        DyeVats x = new DyeVats();
        recipe(x, 0, "wa(ta)wb(tb)");
        due(10, "how many", x.fit(0, 3, 5, 8, -1), 1);
        due(10, "the first", x.fit(0, 3, 5, 7 + 2, 0), 1);
        due(10, "the first", x.fit(0, 3, 5, 7 + 2, 1), 1);
        due(10, "none", x.fit(0, 3, 2, 7, 0), -2);
        due(10, "how many: none", x.fit(0, 3, 2, 7, -1), 0);
        due(10, "colour 0", x.fit(0, 3, 5, 0, -1), 1);
        due(10, "no recipe", x.fit(1, 3, 5, 0, -1), 36);
        due(10, "colour 1008", x.fit(1, 3, 5, 1008, -1), 0);
        x.done(0, 100);
        x.vat(2, 0, 9, 1);
        recipe(x, 1, "tc");
        x.done(1, 1);
        due(10, "a run's own colour", x.fit(0, 3, 5, 0, -1), 1);
        int[][] bad = {{-1, 1, 1, 0, 0}, {3, 1, 1, 0, 0}, {0, 0, 1, 0, 0}, {0, 15, 1, 0, 0}, {0, 64, 1, 0, 0}, {0, 1, 0, 0, 0}, {0, 1, 21, 0, 0}, {0, 1, 1, -1, 0}, {0, 1, 1, 1009, 0}, {0, 1, 1, 0, -2}, {0, 1, 1, 0, 6}};
        for (int[] b : bad) due(10, "no such ones", x.fit(b[0], b[1], b[2], b[3], b[4]), -3);
    }

    private static void rounds() {
        DyeVats x = new DyeVats();
        x.vat(0, 0, 9, 3);
        x.vat(1, 0, 9, 2);
        due(11, "no recipe ends", x.round(0, 0), 0);
        recipe(x, 0, "wb(hab)");
        due(11, "is there one", x.round(0, 0), 1);
        due(11, "after how many", x.round(0, 1), 4);
        due(11, "how many", x.round(0, 2), 2);
        recipe(x, 0, "wa(pabpba)");
        // 3 2, all poured into b, all poured back: then it is 5 0 at the test
        due(11, "within the loop", x.round(0, 1), 2);
        due(11, "three steps", x.round(0, 2), 3);
        recipe(x, 0, "wa(tadb)k");
        due(11, "it ends", x.round(0, 0), 0);
        due(11, "none", x.round(0, 1), -2);
        due(11, "none", x.round(0, 2), -2);
        // the same MEASURES at another place are no standing that was there
        recipe(x, 0, "dctcdctcdctck");
        due(11, "other places", x.round(0, 0), 0);
        // spilt and cloth are no part of a standing
        x.vat(2, 0, 0, 0);
        recipe(x, 0, "wa(dcdbtb)");
        due(11, "spilling for ever", x.round(0, 2), 4);
        recipe(x, 0, "dawa(db)");
        due(11, "till the brim", x.round(0, 1), 1 + 2 * 7);
        due(11, "from then on", x.round(0, 2), 2);
        int[][] bad = {{-1, 0}, {3, 0}, {0, -1}, {0, 3}, {LOW, HIGH}};
        for (int[] b : bad) due(11, "no such ones", x.round(b[0], b[1]), -1);
    }

    private static void roundEdges() {
        DyeVats x = new DyeVats();
        // f is never empty, so that the loop goes on for ever
        x.vat(5, 0, 1, 1);
        recipe(x, 0, "wf(wa(tadb)wb(tbda))");
        x.vat(0, 0, 99, 99);
        // wf 1, a: 3 * 99 + 1, b: 3 * 99 + 1: round of 597
        due(11, "a longer round", x.round(0, 2), 597);
        due(11, "at once", x.round(0, 1), 0);
        // a way of known length, then a ROUND of two
        recipe(x, 0, "wa(tawb(tbdc)wc(tcdb))wf(hff)");
        x.vat(0, 0, 99, 10);
        x.vat(1, 0, 99, 99);
        int way = 10 * (2 + 298 + 298) + 1;
        due(11, "a long way", x.round(0, 1), way);
        due(11, "a short round", x.round(0, 2), 2);
        x.vat(0, 0, 99, 99);
        due(11, "neither within 20000", x.round(0, 0), 2);
        due(11, "neither: none", x.round(0, 1), -2);
        wheel(20000);
        wheel(19999);
        wheel(20001);
        edge(20000);
        edge(19999);
        edge(20001);
    }

    // A ROUND of just so many STEPS from the beginning on: n (6 b + 8) + 3, and DIPS at a full VAT.
    private static void wheel(int steps) {
        for (int n = 1; n <= 99; n++) {
            for (int b = 1; b <= 99; b++) {
                int rest = steps - n * (6 * b + 8) - 3;
                if (rest < 0 || rest > 9) continue;
                DyeVats x = new DyeVats();
                x.vat(0, 0, 99, n);
                x.vat(1, 0, 99, b);
                x.vat(5, 0, 1, 1);
                recipe(x, 0, "wf(wa(tadewb(tbdc)wc(tcdb))we(teda)" + many("df", rest) + ")");
                due(11, "a wheel of " + steps, x.round(0, 0), steps <= 20000 ? 1 : 2);
                due(11, "a wheel of " + steps, x.round(0, 1), steps <= 20000 ? 0 : -2);
                due(11, "a wheel of " + steps, x.round(0, 2), steps <= 20000 ? steps : -2);
                return;
            }
        }
        due(11, "no wheel of " + steps, 0, 1);
    }

    // A way of just so many STEPS to an end, or to the second coming of a ROUND of two.
    private static void edge(int steps) {
        DyeVats x = new DyeVats();
        x.vat(5, 0, 1, 1);
        // each time of a: 2 + 2 (3 b + 1) STEPS; b 99: 598; 33 of them and 1: 19735
        x.vat(0, 0, 99, 33);
        x.vat(1, 0, 99, 99);
        int left = steps - (33 * 598 + 1);
        // wd takes 3 for each of d and 1; e is dipped for the rest
        x.vat(3, 0, 99, (left - 1) / 3);
        String rest = many("de", (left - 1) % 3);
        recipe(x, 0, "wa(tawb(tbdc)wc(tcdb))wd(tddb)" + rest);
        due(11, "ends after " + steps, x.run(0, 20000, 1), Math.min(steps, 20000));
        due(11, "ends after " + steps, x.round(0, 0), steps <= 20000 ? 0 : 2);
        x.vat(3, 0, 99, (left - 3) / 3);
        rest = many("de", (left - 3) % 3);
        recipe(x, 0, "wa(tawb(tbdc)wc(tcdb))wd(tddb)" + rest + "wf(hff)");
        due(11, "comes again after " + steps, x.round(0, 0), steps <= 20000 ? 1 : 2);
        due(11, "comes again after " + steps, x.round(0, 1), steps <= 20000 ? steps - 2 : -2);
        due(11, "comes again after " + steps, x.round(0, 2), steps <= 20000 ? 2 : -2);
    }

    private static DyeVats twoVats(int brimA, int a, int brimB, int b) {
        DyeVats x = new DyeVats();
        x.vat(0, 0, brimA, a);
        x.vat(1, 0, brimB, b);
        for (int v = 2; v < 6; v++) x.vat(v, 0, 0, 0);
        return x;
    }

    private static void shortestRows() {
        DyeVats x = twoVats(9, 3, 9, 2);
        due(12, "none needed", shortest(x, -1, 3, 2, 0, 0, 0, 0), 0);
        due(12, "no such place", shortest(x, 0, 3, 2, 0, 0, 0, 0), -4);
        due(12, "the tape is empty then", x.count(3), 0);
        due(12, "p ab", shortest(x, 0, 0, 5, 0, 0, 0, 0), 13);
        due(12, "p ba", shortest(x, 0, 5, 0, 0, 0, 0, 0), 18);
        due(12, "h ba", shortest(x, 0, 4, 1, 0, 0, 0, 0), 54);
        due(12, "of like ones the first", shortest(x, 0, 2, 3, 0, 0, 0, 0), 49);
        due(12, "of like ones the first by all", shortest(x, 0, 4, 3, 0, 0, 0, 0), 0);
        due(12, "then", shortest(x, 1, 4, 3, 0, 0, 0, 0), 1);
        due(12, "no such place", shortest(x, 2, 4, 3, 0, 0, 0, 0), -4);
        due(12, "no such place", shortest(x, 99, 4, 3, 0, 0, 0, 0), -4);
        due(12, "t a, t b", shortest(x, 0, 2, 1, 0, 0, 0, 0), 6);
        due(12, "no such measure", shortest(x, -1, 10, 0, 0, 0, 0, 0), -3);
        due(12, "no such measure", shortest(x, -1, 0, 0, 0, 0, 0, 255), -3);
        due(12, "the tape is empty then", x.count(3), 0);
        due(12, "not so many", x.shortest(-1), -4);
        x.feed(0, 0, 0, 0, 0);
        due(12, "no such what", x.shortest(-2), -4);
        due(12, "no such what", x.shortest(100), -4);
        due(12, "the tape stays", x.count(3), 20);
        due(12, "nothing is changed", x.count(10), 3);
        // 99 dips and 100 of them; 100 are the most
        x = twoVats(99, 0, 1, 0);
        due(12, "99 dips", shortest(x, -1, 99, 0, 0, 0, 0, 0), 99);
        due(12, "the last of them", shortest(x, 98, 99, 0, 0, 0, 0, 0), 0);
        due(12, "100 dips", shortest(x, -1, 99, 1, 0, 0, 0, 0), 100);
        due(12, "the last of them", shortest(x, 99, 99, 1, 0, 0, 0, 0), 1);
        x = twoVats(99, 0, 2, 0);
        due(12, "101 dips", shortest(x, -1, 99, 2, 0, 0, 0, 0), -2);
        due(12, "101 dips", shortest(x, 5, 99, 2, 0, 0, 0, 0), -2);
        x = twoVats(99, 0, 99, 0);
        x.vat(2, 0, 1, 0);
        due(12, "20000 standings", shortest(x, 0, 1, 1, 1, 0, 0, 0), 0);
        x.vat(2, 0, 2, 0);
        due(12, "more of them", shortest(x, 0, 1, 1, 1, 0, 0, 0), -3);
        x = twoVats(99, 1, 99, 0);
        for (int v = 2; v < 6; v++) x.vat(v, 0, 99, 0);
        due(12, "far more of them", shortest(x, -1, 1, 1, 1, 0, 0, 0), -3);
        // leaking a: each act is a step behind which it leaks
        x = twoVats(9, 3, 9, 0);
        x.vat(0, 1, 9, 3);
        due(12, "a leaks by itself", shortest(x, -1, 0, 0, 0, 0, 0, 0), 2);
        due(12, "d c, at its BRIM, goes ahead of t a", shortest(x, 0, 0, 0, 0, 0, 0, 0), 2);
        due(12, "then t a", shortest(x, 1, 0, 0, 0, 0, 0, 0), 6);
        due(12, "it can't be filled", shortest(x, -1, 9, 0, 0, 0, 0, 0), -2);
        // a 3 leaks to 2 by any ACT: the first that changes nothing else is d c, at its BRIM
        due(12, "an act that spills", shortest(x, 0, 2, 0, 0, 0, 0, 0), 2);
        x = twoVats(9, 4, 9, 0);
        x.vat(0, 3, 9, 4);
        due(12, "joined", shortest(x, -1, 3, 1, 0, 0, 0, 0), 1);
        due(12, "joined by d c", shortest(x, 0, 3, 1, 0, 0, 0, 0), 2);
        x.vat(0, 2, 9, 4);
        due(12, "blind matters not", shortest(x, -1, 0, 4, 0, 0, 0, 0), 1);
        // no DIP and no TAKING is idle: p aa is the first that leaves all to the joined one
        x = new DyeVats();
        for (int v = 0; v < 6; v++) x.vat(v, v == 0 ? 3 : 0, v == 0 ? 4 : 2, v == 0 ? 3 : 1);
        due(12, "p aa", shortest(x, 0, 2, 2, 1, 1, 1, 1), 12);
        for (int v = 0; v < 6; v++) x.vat(v, 0, 0, 0);
        due(12, "one standing alone", shortest(x, -1, 0, 0, 0, 0, 0, 0), 0);
        x = new DyeVats();
        for (int v = 0; v < 6; v++) x.vat(v, 0, v == 4 || v == 5 ? 3 : 0, v == 4 ? 2 : 0);
        due(12, "h ef", shortest(x, 0, 0, 0, 0, 0, 1, 1), 48 + 4 * 6 + 5);
        due(12, "p ef", shortest(x, 0, 0, 0, 0, 0, 0, 2), 12 + 4 * 6 + 5);
        due(12, "d f", shortest(x, 0, 0, 0, 0, 0, 2, 1), 5);
        due(12, "t e", shortest(x, 0, 0, 0, 0, 0, 1, 0), 10);
    }

    private static void slips() {
        DyeVats x = new DyeVats();
        x.vat(0, 0, 9, 3);
        x.vat(1, 0, 9, 2);
        recipe(x, 0, "ia(dc:k)datapab");
        due(13, "no spec: nothing is felt", x.slips(0, 100, 0), 4);
        due(13, "the first is a step behind the test", x.slips(0, 100, 2), 2);
        due(13, "twice", x.slips(0, 100, 1), 4);
        spec(x, "B=a+b");
        due(13, "left out", x.slips(0, 100, 0), 1);
        due(13, "the first", x.slips(0, 100, 2), 2);
        due(13, "twice", x.slips(0, 100, 1), 2);
        due(13, "the first", x.slips(0, 100, 3), 2);
        spec(x, "B=99");
        due(13, "all are felt", x.slips(0, 100, 0), 0);
        due(13, "none", x.slips(0, 100, 2), -2);
        due(13, "none", x.slips(0, 100, 3), -2);
        spec(x, "n=5");
        due(13, "the one step counts once", x.slips(0, 100, 1), 4);
        due(13, "left out it counts as well", x.slips(0, 100, 0), 4);
        due(13, "by a limit", x.slips(0, 4, 0), 0);
        spec(x, "k=3");
        due(13, "by a limit", x.slips(0, 4, 0), 3);
        due(13, "by a limit of tests alone", x.slips(0, 1, 0), 0);
        spec(x, "s=3");
        x.vat(3, 1, 9, 3);
        recipe(x, 1, "dada");
        due(13, "kinds work once behind it", x.slips(1, 100, 1), 0);
        spec(x, "s=2");
        due(13, "kinds work once behind it", x.slips(1, 100, 1), 2);
        due(13, "kinds work behind what is left out", x.slips(1, 100, 0), 2);
        spec(x, "A=a+3");
        due(13, "twice, not oftener", x.slips(1, 100, 1), 2);
        recipe(x, 1, "wa(ta)");
        spec(x, "k=1");
        due(13, "a loop one time more", x.slips(1, 100, 0), 3);
        spec(x, "k=2");
        recipe(x, 1, "wa(tadb)k");
        due(13, "k is no slip", x.slips(1, 100, 0), 6);
        int[][] bad = {{-1, 1, 0}, {3, 1, 0}, {0, 0, 0}, {0, 2001, 0}, {0, 1, -1}, {0, 1, 4}};
        for (int[] b : bad) due(13, "no such ones", x.slips(b[0], b[1], b[2]), -1);
        recipe(x, 1, "wa(hff)");
        spec(x, "n=2000");
        due(13, "the highest limit", x.slips(1, 2000, 0), 1000);
        due(13, "nothing is changed", x.count(10), 3);
    }

    private static void sums() {
        DyeVats x = new DyeVats();
        recipe(x, 0, "wa(ta)");
        due(14, "steps", sum(x, 0, 0, 10, 1, 5, 0, 0, 0, 0, 0), 11);
        due(14, "told", x.count(5), 1);
        due(14, "the tape is empty", x.count(3), 0);
        due(14, "as high as can be", sum(x, 7, 0, 9999, 99, 99, 99, 99, 99, 99, 99), 199);
        due(14, "told", x.count(5), 129);
        due(14, "a measure above 99", sum(x, 1, 0, 0, 0, 0, 0, 0, 0, 0, 100), -2);
        due(14, "a measure above 127", sum(x, 1, 0, 0, 0, 200, 0, 0, 0, 0, 0), -2);
        due(14, "the tape is empty", x.count(3), 0);
        due(14, "not told", x.count(5), 129);
        due(14, "no tape", x.sum(1, 0, 0, 0), -1);
        x.feed(0, 0, 0, 0, 0);
        int[][] bad = {{-1, 0, 0, 0}, {8, 0, 0, 0}, {0, -1, 0, 0}, {0, 3, 0, 0}, {0, 0, -1, 0}, {0, 0, 10000, 0}, {0, 0, 0, -1}, {0, 0, 0, 100}};
        for (int[] b : bad) due(14, "no such ones", x.sum(b[0], b[1], b[2], b[3]), -1);
        due(14, "the tape stays", x.count(3), 20);
        x.vat(0, 0, 3, 1);
        x.check(0);
        due(14, "held to brims", sum(x, 0, 0, 10, 1, 5, 0, 0, 0, 0, 0), 7);
        recipe(x, 1, "wb(hab)");
        due(14, "by 1000", sum(x, 2, 1, 10, 1, 5, 1, 0, 0, 0, 0), 1000);
        due(14, "no recipe", sum(x, 2, 2, 10, 1, 5, 1, 0, 0, 0, 0), 0);
        due(14, "nothing is changed", x.count(10), 1);
    }

    private static void orders() {
        DyeVats x = new DyeVats();
        recipe(x, 0, "wa(ta)");
        sum(x, 0, 0, 11, 1, 5, 0, 0, 0, 0, 0);
        sum(x, 1, 0, 5, 2, 2, 0, 0, 0, 0, 0);
        sum(x, 2, 0, 1, 3, 0, 0, 0, 0, 0, 0);
        // 11, 5, 1 STEPS: 2 1 0: 0 + 2 + 6 = 8; 1 2 0: 0 + 15 + 6 = 21; 2 0 1: 1 + 24 = 25
        due(15, "prices", x.order(7, -1), 8);
        due(15, "first", x.order(7, 0), 2);
        due(15, "second", x.order(7, 1), 1);
        due(15, "third", x.order(7, 2), 0);
        due(15, "no such place", x.order(7, 3), -1);
        due(15, "one alone", x.order(2, 0), 1);
        due(15, "in time", x.order(2, -1), 0);
        due(15, "no such place", x.order(2, 1), -1);
        due(15, "one is not told", x.order(9, -1), -2);
        due(15, "one is not told", x.order(9, 1), -2);
        due(15, "no such place goes first", x.order(9, 2), -1);
        int[][] bad = {{0, -1}, {-1, -1}, {256, -1}, {7, -2}, {7, LOW}, {LOW, 0}, {HIGH, 0}};
        for (int[] b : bad) due(15, "no such ones", x.order(b[0], b[1]), -1);
        sum(x, 1, 0, 9999, 0, 2, 0, 0, 0, 0, 0);
        sum(x, 2, 0, 9999, 0, 0, 0, 0, 0, 0, 0);
        due(15, "of like ones the least row", x.order(7, 0), 0);
        due(15, "of like ones the least row", x.order(7, 1), 1);
        x.vat(0, 0, 3, 0);
        sum(x, 0, 0, 0, 1, 5, 0, 0, 0, 0, 0);
        due(15, "held to brims as they are", x.order(1, -1), 7);
        x.vat(0, 0, 99, 0);
        due(15, "as vats are when it is asked", x.order(1, -1), 11);
        recipe(x, 0, "dadada");
        due(15, "as recipes are when it is asked", x.order(1, -1), 3);
        for (int i = 0; i < 8; i++) sum(x, i, 0, 0, 8 - i, 0, 0, 0, 0, 0, 0);
        int prices = 0;
        for (int i = 0; i < 8; i++) prices += (8 - i) * 3 * (i + 1);
        due(15, "all eight", x.order(255, -1), prices);
        due(15, "the last", x.order(255, 7), 7);
        due(15, "some of them", x.order(0xA4, 0), 2);
        due(15, "some of them", x.order(0xA4, 2), 7);
    }

    private static void nights() {
        DyeVats x = new DyeVats();
        due(16, "no such", x.seed(-1), false);
        due(16, "no such", x.seed(65536), false);
        due(16, "as before", x.count(4), 1);
        due(16, "highest", x.seed(65535), true);
        due(16, "x", x.count(4), 65535);
        due(16, "lowest", x.seed(0), true);
        due(17, "no such n", x.night(0), -1);
        due(17, "no such n", x.night(41), -1);
        due(17, "no such n", x.night(LOW), -1);
        due(17, "x as before", x.count(4), 0);
        // 0: 13849: VAT 1, 2308: one more
        due(17, "one more", x.night(1), 0);
        due(17, "x", x.count(4), 13849);
        due(17, "b", x.count(11), 1);
        x.seed(0);
        x.vat(1, 0, 1, 1);
        due(17, "at the brim", x.night(1), 1);
        due(17, "spilt", x.count(0), 1);
        due(17, "b", x.count(11), 1);
        x.seed(1);
        // 1: 39022: VAT 4, 6503: one less, if there is one
        due(17, "there is none", x.night(1), 0);
        x.vat(4, 0, 9, 2);
        x.seed(1);
        due(17, "one less", x.night(1), 1);
        due(17, "e", x.count(14), 1);
        due(17, "spilt", x.count(0), 2);
        due(17, "no cloth", x.count(1), 0);
        x.vat(4, 1, 9, 5);
        x.seed(0);
        x.night(1);
        due(17, "kinds do not work at night", x.count(14), 5);
        due(17, "the longest night", x.night(40) >= 0, true);
    }

    private static void keptAndUndone() {
        DyeVats x = new DyeVats();
        due(19, "none was kept", x.undo(), false);
        x.vat(0, 0, 9, 3);
        x.vat(1, 0, 9, 9);
        recipe(x, 0, "wa(tadb)");
        x.done(0, 4);
        int s = x.count(0), c = x.count(1), k = x.count(2);
        due(18, "together", x.keep(), 11);
        x.done(0, 100);
        x.night(7);
        due(19, "undone", x.undo(), true);
        due(19, "a", x.count(10), 2);
        due(19, "b", x.count(11), 9);
        due(19, "spilt", x.count(0), s);
        due(19, "cloth", x.count(1), c);
        due(19, "colour", x.count(2), k);
        due(19, "x", x.count(4), 1);
        x.done(0, 100);
        due(19, "once more", x.undo(), true);
        due(19, "a", x.count(10), 2);
        x.vat(1, 2, 8, 0);
        x.seed(77);
        due(19, "above its brim", x.undo(), false);
        due(19, "nothing is changed", x.count(4), 77);
        due(19, "nothing is changed", x.count(11), 0);
        x.vat(1, 2, 9, 0);
        due(19, "at its brim", x.undo(), true);
        due(19, "kinds stay", x.count(31), 2);
        due(19, "recipes stay", x.count(40), 3);
        x.vat(1, 0, 50, 40);
        due(18, "kept anew", x.keep(), 42);
        x.vat(1, 0, 50, 0);
        due(19, "as kept last", x.undo(), true);
        due(19, "b", x.count(11), 40);
        fed(x, "aaaa");
        x.undo();
        due(19, "the tape stays", x.count(3), 20);
    }

    private static void checks() {
        DyeVats x = new DyeVats();
        for (int v = 0; v < 6; v++) x.vat(v, 0, 99, v + 1);
        x.feed(1, 2, 3, 4, 5);
        x.feed(6, 0, 0, 0, 0);
        due(20, "all right", x.check(6), -1);
        due(20, "empty then", x.count(3), 0);
        x.feed(1, 2, 9, 9, 5);
        due(20, "the first wrong one", x.check(4), 2);
        due(20, "empty then", x.count(3), 0);
        x.feed(1, 2, 9, 9, 5);
        due(20, "the first two", x.check(2), -1);
        x.feed(257, 2, 3, 4, 5);
        due(20, "all four bytes", x.check(1), 0);
        x.feed(-1, 2, 3, 4, 5);
        due(20, "all four bytes", x.check(1), 0);
        x.feed(1, 2, 3, 4, 5);
        x.check(0);
        x.feed(0x01000001, 2, 3, 4, 5);
        due(20, "the highest byte", x.check(1), 0);
        x.feed(0x80000001, 2, 3, 4, 5);
        due(20, "the highest bit", x.check(1), 0);
        x.feed(1, 2, 3, 4, 5);
        due(20, "no such n", x.check(7), -2);
        due(20, "no such n", x.check(-1), -2);
        due(20, "no such n", x.check(HIGH), -2);
        due(20, "not so many", x.check(6), -2);
        due(20, "the tape stays", x.count(3), 20);
        due(20, "none", x.check(0), -1);
        due(20, "empty then", x.count(3), 0);
        due(20, "none of none", x.check(0), -1);
        due(20, "not so many", x.check(1), -2);
    }

    private static void counts() {
        DyeVats x = new DyeVats();
        int[] none = {-1, 7, 8, 9, 16, 19, 26, 29, 36, 39, 43, 50, LOW, HIGH};
        for (int what : none) due(21, "count(" + what + ")", x.count(what), -1);
        for (int v = 0; v < 6; v++) x.vat(v, v % 4, 90 + v, 10 * v);
        for (int v = 0; v < 6; v++) {
            due(21, "measure", x.count(10 + v), 10 * v);
            due(21, "brim", x.count(20 + v), 90 + v);
            due(21, "kind", x.count(30 + v), v % 4);
        }
        due(21, "together", x.count(6), 150);
        recipe(x, 2, "wa(ta)k");
        due(21, "acts", x.count(42), 3);
        due(21, "acts", x.count(41), 0);
        fed(x, "a");
        due(21, "tape", x.count(3), 20);
        x.seed(5);
        due(21, "x", x.count(4), 5);
    }
}
