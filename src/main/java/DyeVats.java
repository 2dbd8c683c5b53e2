import java.util.Arrays;

/** Counting in vats: a dyers' town that does its sums in measures of dye. */
public final class DyeVats {
    public static final int NONE = -1;

    private static final int VATS = 6;
    private static final int MOST = 99;
    private static final int RECIPES = 3;
    private static final int TEXT = 120;
    private static final int OPEN_MOST = 6;

    private static final int PLAIN = 0;
    private static final int LEAKING = 1;
    private static final int BLIND = 2;
    private static final int JOINED = 3;

    private static final int FAULT_PLACE = 1;
    private static final int FAULT_DIGIT = 2;
    private static final int FAULT_OPEN = 5;

    // Codes of a RECIPE's items; those up to HALF are the ACTS that change MEASURES.
    private static final int DIP = 0;
    private static final int TAKE = 1;
    private static final int POUR = 2;
    private static final int HALF = 3;
    private static final int TEST = 4;
    private static final int STOP = 5;
    private static final int JUMP = 6;

    private static final int ENDED_LAST = 1;
    private static final int ENDED_STOP = 2;
    private static final int ENDED_LIMIT = 3;

    private static final int RUN_LIMIT = 20000;
    private static final int SURVEY_LIMIT = 2000;
    private static final int SLIP_LIMIT = 2000;
    private static final int COLOURS = 1009;
    private static final int SEEDS = 65536;

    private final Tape tape;
    private final Vats vats;
    private final Recipe[] recipes;
    private Recipe spareRecipe;
    private Spec rule;
    private Spec spareRule;
    private final SpecReader specReader;
    private final Course course;
    private final Course fork;
    private final Survey survey;
    private final Ring ring;
    private final Paths paths;
    private final Market market;
    private final Ledger ledger;
    private final Ledger kept;
    private boolean anyKept;

    /** Six plain, empty VATS; no RECIPES, SPEC, SUMS; THE SEED 1. */
    public DyeVats() {
        tape = new Tape();
        vats = new Vats();
        recipes = new Recipe[RECIPES];
        for (int w = 0; w < RECIPES; w++) {
            recipes[w] = new Recipe();
        }
        spareRecipe = new Recipe();
        rule = new Spec();
        spareRule = new Spec();
        specReader = new SpecReader(tape, spareRule);
        course = new Course(vats);
        fork = new Course(vats);
        survey = new Survey(vats, course, fork);
        ring = new Ring(vats, course, fork);
        paths = new Paths(vats, course);
        market = new Market(vats, course);
        ledger = new Ledger();
        ledger.x = 1;
        kept = new Ledger();
        anyKept = false;
    }

    /** A VAT: true; false: no such ones. */
    public boolean vat(int v, int kind, int brim, int measure) {
        if (!within(v, 0, VATS - 1) || !within(kind, PLAIN, JOINED)) {
            return false;
        }
        if (!within(brim, 0, MOST) || !within(measure, 0, brim)) {
            return false;
        }
        vats.put(v, kind, brim, measure);
        return true;
    }

    /** Twenty bytes come behind the tape: how many it has; NONE if that would be too many. */
    public int feed(int a, int b, int c, int d, int e) {
        if (!tape.hasRoom()) {
            return NONE;
        }
        tape.add(a);
        tape.add(b);
        tape.add(c);
        tape.add(d);
        tape.add(e);
        return tape.length;
    }

    /** RECIPE w by the first n bytes of the tape: how many ACTS, a FAULT, NONE. */
    public int recipe(int w, int n) {
        if (!isRecipe(w) || !hasText(n)) {
            return NONE;
        }
        boolean read = spareRecipe.read(tape, n);
        tape.clear();
        if (!read) {
            return tape.fault;
        }
        Recipe before = recipes[w];
        recipes[w] = spareRecipe;
        spareRecipe = before;
        return recipes[w].acts;
    }

    /** The SPEC by the first n bytes of the tape: 1, a FAULT, NONE. */
    public int spec(int n) {
        if (!hasText(n)) {
            return NONE;
        }
        boolean read = specReader.read(spareRule, n);
        tape.clear();
        if (!read) {
            return tape.fault;
        }
        Spec before = rule;
        rule = spareRule;
        spareRule = before;
        return 1;
    }

    /** A RUN by a LIMIT; nothing is changed. */
    public int run(int w, int limit, int what) {
        boolean told = within(what, 0, 5) || within(what, 10, 10 + VATS - 1);
        if (!isRecipe(w) || !within(limit, 1, RUN_LIMIT) || !told) {
            return NONE;
        }
        course.start(vats.measure, 0);
        course.go(recipes[w], limit);
        switch (what) {
            case 0:
                return course.ended;
            case 1:
                return course.steps;
            case 2:
                return course.spilt;
            case 3:
                return course.cloth;
            case 4:
                return course.colour;
            case 5:
                return rule.holds(course) ? 1 : 0;
            default:
                return course.now[what - 10];
        }
    }

    /** DONE by a LIMIT: how it ends. */
    public int done(int w, int limit) {
        if (!isRecipe(w) || !within(limit, 1, RUN_LIMIT)) {
            return NONE;
        }
        course.start(vats.measure, ledger.colour);
        course.go(recipes[w], limit);
        copyMeasures(course.now, vats.measure);
        ledger.spilt += course.spilt;
        ledger.cloth += course.cloth;
        ledger.colour = course.colour;
        return course.ended;
    }

    /** BEGINNINGS from which the SPEC does not hold. */
    public int proved(int w, int vats, int bound, int what) {
        if (!isRecipe(w) || !isSurvey(vats, bound, what)) {
            return -3;
        }
        survey.lay(vats, bound);
        return survey.unproved(recipes[w], rule, what);
    }

    /** BEGINNINGS from which two RECIPES end otherwise. */
    public int alike(int w, int other, int vats, int bound, int what) {
        if (!isRecipe(w) || !isRecipe(other) || !isSurvey(vats, bound, what)) {
            return -3;
        }
        survey.lay(vats, bound);
        return survey.unlike(recipes[w], recipes[other], what);
    }

    /** BEGINNINGS from which a RECIPE has a told COLOUR. */
    public int fit(int w, int vats, int bound, int colour, int what) {
        if (!isRecipe(w) || !within(colour, 0, COLOURS - 1) || !isSurvey(vats, bound, what)) {
            return -3;
        }
        survey.lay(vats, bound);
        return survey.coloured(recipes[w], colour, what);
    }

    /** A ROUND: whether there is one, after how many STEPS, how many STEPS it has. */
    public int round(int w, int what) {
        if (!isRecipe(w) || !within(what, 0, 2)) {
            return NONE;
        }
        ring.seek(recipes[w]);
        if (what == 0) {
            return ring.outcome;
        }
        if (ring.outcome != Ring.FOUND) {
            return -2;
        }
        return what == 1 ? ring.ahead : ring.length;
    }

    /** THE SHORTEST row of ACTS to the MEASURES on the tape. */
    public int shortest(int what) {
        if (!within(what, NONE, Paths.MOST_ACTS - 1) || tape.length < VATS) {
            return -4;
        }
        tape.takeMeasures(paths.target);
        tape.clear();
        if (!paths.canSeek()) {
            return -3;
        }
        int acts = paths.seek();
        if (acts < 0) {
            return -2;
        }
        if (what == NONE) {
            return acts;
        }
        return what < acts ? paths.row[what] : -4;
    }

    /** SLIPS that are not FELT in a RUN by a LIMIT. */
    public int slips(int w, int limit, int what) {
        if (!isRecipe(w) || !within(limit, 1, SLIP_LIMIT) || !within(what, 0, 3)) {
            return NONE;
        }
        int times = (what & 1) == 0 ? 0 : 2;
        return unfelt(recipes[w], limit, times, what >= 2);
    }

    /** A SUM by the first 6 bytes of the tape: how many STEPS it takes now. */
    public int sum(int i, int w, int due, int price) {
        if (!within(i, 0, Market.SUMS - 1) || !isRecipe(w) || tape.length < VATS) {
            return NONE;
        }
        if (!within(due, 0, 9999) || !within(price, 0, 99)) {
            return NONE;
        }
        tape.takeMeasures(market.offered);
        tape.clear();
        if (!market.isOfferGood()) {
            return -2;
        }
        market.take(i, w, due, price);
        return market.stepsOf(i, recipes[w]);
    }

    /** THE ORDER of SUMS of least PRICES together. */
    public int order(int sums, int what) {
        if (!within(sums, 1, (1 << Market.SUMS) - 1) || !within(what, NONE, Integer.bitCount(sums) - 1)) {
            return NONE;
        }
        if ((sums & ~market.told) != 0) {
            return -2;
        }
        for (int i = 0; i < Market.SUMS; i++) {
            if ((sums >> i & 1) != 0) {
                market.stepsOf(i, recipes[market.recipeOf[i]]);
            }
        }
        market.weigh(sums);
        return what == NONE ? market.best[0] : market.placed(sums, what);
    }

    /** THE SEED (X, too): true; false: no such number. */
    public boolean seed(int x) {
        if (!within(x, 0, SEEDS - 1)) {
            return false;
        }
        ledger.x = x;
        return true;
    }

    /** AT NIGHT: how much is SPILT. */
    public int night(int n) {
        if (!within(n, 1, 40)) {
            return NONE;
        }
        int spilt = 0;
        for (int i = 0; i < n; i++) {
            ledger.x = (25173 * ledger.x + 13849) % SEEDS;
            spilt += pourAtNight(ledger.x % VATS, ledger.x / 6 % 2 == 0);
        }
        ledger.spilt += spilt;
        return spilt;
    }

    /** KEPT: MEASURES of all VATS together. */
    public int keep() {
        copyMeasures(vats.measure, ledger.measure);
        kept.copy(ledger);
        anyKept = true;
        return vats.together();
    }

    /** UNDONE: true; false: none was KEPT, a MEASURE would be above its BRIM. */
    public boolean undo() {
        if (!anyKept || !vats.hold(kept.measure)) {
            return false;
        }
        ledger.copy(kept);
        copyMeasures(kept.measure, vats.measure);
        return true;
    }

    /** CHECK by the first n numbers of the tape: NONE, or the first place that is wrong. */
    public int check(int n) {
        if (!within(n, 0, VATS) || tape.length < 4 * n) {
            return -2;
        }
        int wrong = firstWrong(n);
        tape.clear();
        return wrong;
    }

    /** What stands in the books. */
    public int count(int what) {
        if (within(what, 10, 10 + VATS - 1)) {
            return vats.measure[what - 10];
        }
        if (within(what, 20, 20 + VATS - 1)) {
            return vats.brim[what - 20];
        }
        if (within(what, 30, 30 + VATS - 1)) {
            return vats.kind[what - 30];
        }
        if (within(what, 40, 40 + RECIPES - 1)) {
            return recipes[what - 40].acts;
        }
        switch (what) {
            case 0:
                return ledger.spilt;
            case 1:
                return ledger.cloth;
            case 2:
                return ledger.colour;
            case 3:
                return tape.length;
            case 4:
                return ledger.x;
            case 5:
                return market.told;
            case 6:
                return vats.together();
            default:
                return NONE;
        }
    }

    private static boolean within(int x, int low, int high) {
        return x >= low && x <= high;
    }

    private static void copyMeasures(int[] from, int[] to) {
        System.arraycopy(from, 0, to, 0, VATS);
    }

    private static boolean isRecipe(int w) {
        return within(w, 0, RECIPES - 1);
    }

    private boolean hasText(int n) {
        return within(n, 1, TEXT) && tape.length >= n;
    }

    private static boolean isSurvey(int bits, int bound, int what) {
        return within(bits, 1, (1 << VATS) - 1)
            && Integer.bitCount(bits) <= Survey.CHOSEN_MOST
            && within(bound, 1, Survey.BOUND_MOST)
            && within(what, NONE, VATS - 1);
    }

    private int firstWrong(int n) {
        for (int v = 0; v < n && v < VATS; v++) {
            if (tape.number(v) != vats.measure[v]) {
                return v;
            }
        }
        return NONE;
    }

    private int pourAtNight(int v, boolean more) {
        if (!more) {
            if (vats.measure[v] == 0) {
                return 0;
            }
            vats.measure[v]--;
            return 1;
        }
        if (vats.measure[v] >= vats.brim[v]) {
            return 1;
        }
        vats.measure[v]++;
        return 0;
    }

    // The RUN goes on unslipped in course; fork goes on from each STEP as if that one were slipped.
    private int unfelt(Recipe recipe, int limit, int times, boolean first) {
        int found = 0;
        course.start(vats.measure, 0);
        for (int i = 0; i < limit && !course.isOver(recipe); i++) {
            if (recipe.maySlip(course.place)) {
                fork.copy(course);
                fork.step(recipe, times);
                fork.go(recipe, limit);
                if (rule.holds(fork)) {
                    if (first) {
                        return course.steps + 1;
                    }
                    found++;
                }
            }
            course.step(recipe, 1);
        }
        return first ? -2 : found;
    }

    /** Bytes that wait to be read, and how far a TEXT of them has been read. */
    private static final class Tape {
        static final int MOST_BYTES = 160;
        static final int FED = 20;

        private final byte[] bytes = new byte[MOST_BYTES];
        int length;
        private int place;
        private int end;
        // The answer for the FAULT that was found last.
        int fault;

        boolean hasRoom() {
            return length + FED <= MOST_BYTES;
        }

        void add(int x) {
            for (int shift = 24; shift >= 0 && length < MOST_BYTES; shift -= 8) {
                bytes[length] = (byte) (x >> shift);
                length++;
            }
        }

        void clear() {
            length = 0;
        }

        private int at(int i) {
            return within(i, 0, MOST_BYTES - 1) ? bytes[i] & 255 : NONE;
        }

        int number(int i) {
            int x = 0;
            for (int j = 0; j < 4; j++) {
                x = x << 8 | at(4 * i + j) & 255;
            }
            return x;
        }

        void takeMeasures(int[] to) {
            for (int v = 0; v < VATS && v < to.length; v++) {
                to[v] = at(v);
            }
        }

        void open(int n) {
            place = 0;
            end = n;
            fault = 0;
        }

        // The byte that is read next; NONE is the end.
        int sign() {
            return place < end && place < MOST_BYTES ? bytes[place] & 255 : NONE;
        }

        void skip() {
            place++;
        }

        boolean pass(int wanted) {
            if (sign() != wanted) {
                return refuse(FAULT_PLACE);
            }
            place++;
            return true;
        }

        boolean isRead() {
            return place >= end || refuse(FAULT_PLACE);
        }

        boolean canOpen(int open) {
            return open < OPEN_MOST || refuse(FAULT_OPEN);
        }

        boolean refuse(int number) {
            fault = -1000 * number - place;
            return false;
        }
    }

    /** The six VATS as they stand. */
    private static final class Vats {
        final int[] kind = new int[VATS];
        final int[] brim = new int[VATS];
        final int[] measure = new int[VATS];
        // Whether some KIND has work to do behind a STEP.
        boolean restless;

        Vats() {
            Arrays.fill(brim, MOST);
        }

        void put(int v, int newKind, int newBrim, int newMeasure) {
            kind[v] = newKind;
            brim[v] = newBrim;
            measure[v] = newMeasure;
            restless = false;
            for (int i = 0; i < VATS; i++) {
                restless |= kind[i] == LEAKING || kind[i] == JOINED;
            }
        }

        int together() {
            int all = 0;
            for (int v = 0; v < VATS; v++) {
                all += measure[v];
            }
            return all;
        }

        boolean hold(int[] measures) {
            for (int v = 0; v < VATS; v++) {
                if (measures[v] > brim[v]) {
                    return false;
                }
            }
            return true;
        }
    }

    /** What is KEPT and UNDONE; the ledger's own MEASURES are filled only when it is KEPT. */
    private static final class Ledger {
        final int[] measure = new int[VATS];
        int spilt;
        int cloth;
        int colour;
        int x;

        void copy(Ledger from) {
            copyMeasures(from.measure, measure);
            spilt = from.spilt;
            cloth = from.cloth;
            colour = from.colour;
            x = from.x;
        }
    }

    /** A RECIPE as a row of items; a place at or behind its size is the end. */
    private static final class Recipe {
        final int[] code = new int[TEXT];
        final int[] first = new int[TEXT];
        final int[] second = new int[TEXT];
        final int[] next = new int[TEXT];
        final int[] other = new int[TEXT];
        int size;
        int acts;

        boolean read(Tape tape, int n) {
            size = 0;
            acts = 0;
            tape.open(n);
            if (!readActs(tape, 0) || !tape.isRead()) {
                return false;
            }
            straighten();
            return true;
        }

        boolean maySlip(int place) {
            return within(place, 0, size - 1) && code[place] <= HALF;
        }

        private int add(int item, int x, int y) {
            int at = size;
            if (at < TEXT) {
                code[at] = item;
                first[at] = x;
                second[at] = y;
                size++;
                if (item != JUMP) {
                    acts++;
                }
            }
            return at;
        }

        private void lead(int from, int to) {
            if (within(from, 0, TEXT - 1)) {
                other[from] = to;
            }
        }

        // A place is where the next STEP is, so that no RUN may stand at a JUMP.
        private void straighten() {
            for (int i = 0; i < size; i++) {
                next[i] = behindJumps(i + 1);
            }
            for (int i = 0; i < size; i++) {
                if (code[i] == TEST) {
                    other[i] = behindJumps(other[i]);
                }
            }
        }

        private int behindJumps(int place) {
            int at = place;
            for (int i = 0; i < size && at < size && code[at] == JUMP; i++) {
                at = other[at];
            }
            return at;
        }

        private static boolean beginsAct(int c) {
            return c == 'd' || c == 't' || c == 'p' || c == 'h' || c == 'w' || c == 'i' || c == 'k';
        }

        private boolean readActs(Tape tape, int open) {
            boolean good = readAct(tape, open);
            for (int i = 0; i < TEXT && good && beginsAct(tape.sign()); i++) {
                good = readAct(tape, open);
            }
            return good;
        }

        private boolean readAct(Tape tape, int open) {
            int c = tape.sign();
            if (!beginsAct(c)) {
                return tape.refuse(FAULT_PLACE);
            }
            tape.skip();
            switch (c) {
                case 'd':
                    return readSingle(tape, DIP);
                case 't':
                    return readSingle(tape, TAKE);
                case 'p':
                    return readDouble(tape, POUR);
                case 'h':
                    return readDouble(tape, HALF);
                case 'w':
                    return readWhile(tape, open);
                case 'i':
                    return readIf(tape, open);
                default:
                    add(STOP, 0, 0);
                    return true;
            }
        }

        private static int readVat(Tape tape) {
            int v = tape.sign() - 'a';
            if (!within(v, 0, VATS - 1)) {
                tape.refuse(FAULT_PLACE);
                return NONE;
            }
            tape.skip();
            return v;
        }

        private boolean readSingle(Tape tape, int item) {
            int v = readVat(tape);
            if (v == NONE) {
                return false;
            }
            add(item, v, 0);
            return true;
        }

        private boolean readDouble(Tape tape, int item) {
            int from = readVat(tape);
            int to = from == NONE ? NONE : readVat(tape);
            if (to == NONE) {
                return false;
            }
            add(item, from, to);
            return true;
        }

        // The TEST with what opens its ACTS: its place; NONE: a FAULT.
        private int readTest(Tape tape, int open) {
            int v = readVat(tape);
            if (v == NONE || tape.sign() == '(' && !tape.canOpen(open) || !tape.pass('(')) {
                return NONE;
            }
            return add(TEST, v, 0);
        }

        private boolean readWhile(Tape tape, int open) {
            int test = readTest(tape, open);
            if (test == NONE || !readActs(tape, open + 1) || !tape.pass(')')) {
                return false;
            }
            lead(add(JUMP, 0, 0), test);
            lead(test, size);
            return true;
        }

        private boolean readIf(Tape tape, int open) {
            int test = readTest(tape, open);
            if (test == NONE || !readActs(tape, open + 1) || !tape.pass(':')) {
                return false;
            }
            int jump = add(JUMP, 0, 0);
            lead(test, size);
            if (!readActs(tape, open + 1) || !tape.pass(')')) {
                return false;
            }
            lead(jump, size);
            return true;
        }
    }

    /** A SPEC as a row of orders for a reckoner with a heap of numbers and one truth. */
    private static final class Spec {
        static final int NUMBER = 0;
        static final int LETTER = 1;
        static final int NOT = 2;
        static final int AND = 3;
        static final int OR = 4;
        // All others are told by their signs: + - * / % < > =

        final int[] code = new int[TEXT];
        final int[] with = new int[TEXT];
        int size;
        private final int[] heap = new int[TEXT];
        private int top;
        private boolean refused;
        private boolean truth;

        int add(int order, int x) {
            int at = size;
            if (at < TEXT) {
                code[at] = order;
                with[at] = x;
                size++;
            }
            return at;
        }

        boolean holds(Course course) {
            top = 0;
            refused = false;
            truth = true;
            int at = 0;
            // All leaps go ahead, so that each order is met once at most.
            for (int i = 0; i < size && at < size && !refused; i++) {
                int order = code[at];
                boolean leaps = order == AND && !truth || order == OR && truth;
                if (!leaps) {
                    obey(order, with[at], course);
                }
                at = leaps ? Math.max(with[at], at + 1) : at + 1;
            }
            return truth && !refused;
        }

        private void obey(int order, int x, Course course) {
            if (order == NUMBER) {
                push(x);
            } else if (order == LETTER) {
                push(course.known(x));
            } else if (order == NOT) {
                truth = !truth;
            } else if (order != AND && order != OR) {
                int right = pop();
                int left = pop();
                if (order == '<' || order == '>' || order == '=') {
                    truth = order == '<' ? left < right : order == '>' ? left > right : left == right;
                } else {
                    push(reckon(order, left, right));
                }
            }
        }

        private int reckon(int order, int left, int right) {
            switch (order) {
                case '+':
                    return left + right;
                case '-':
                    return left - right;
                case '*':
                    return left * right;
                default:
                    if (right == 0) {
                        refused = true;
                        return 0;
                    }
                    return order == '/' ? left / right : left % right;
            }
        }

        private void push(int x) {
            if (top < heap.length) {
                heap[top] = x;
                top++;
            }
        }

        private int pop() {
            if (top <= 0) {
                return 0;
            }
            top--;
            return heap[top];
        }
    }

    /** Reads a SPEC from the tape, or tells its first FAULT. */
    private static final class SpecReader {
        private static final int DIGITS = 5;

        private final Tape tape;
        private Spec rule;

        SpecReader(Tape tape, Spec rule) {
            this.tape = tape;
            this.rule = rule;
        }

        boolean read(Spec into, int n) {
            rule = into;
            rule.size = 0;
            tape.open(n);
            return readChoice(0) && tape.isRead();
        }

        // Each leap leads to the next one of its own row, where it leaps on, or behind the last.
        private boolean readChoice(int open) {
            int leap = NONE;
            boolean good = readPart(open);
            for (int i = 0; i < TEXT && good && tape.sign() == '|'; i++) {
                lead(leap);
                leap = rule.add(Spec.OR, 0);
                tape.skip();
                good = readPart(open);
            }
            lead(leap);
            return good;
        }

        private boolean readPart(int open) {
            int leap = NONE;
            boolean good = readPiece(open);
            for (int i = 0; i < TEXT && good && tape.sign() == '&'; i++) {
                lead(leap);
                leap = rule.add(Spec.AND, 0);
                tape.skip();
                good = readPiece(open);
            }
            lead(leap);
            return good;
        }

        private void lead(int leap) {
            if (within(leap, 0, TEXT - 1)) {
                rule.with[leap] = rule.size;
            }
        }

        private boolean readPiece(int open) {
            int c = tape.sign();
            if (c == '!') {
                if (!tape.canOpen(open)) {
                    return false;
                }
                tape.skip();
                boolean good = readPiece(open + 1);
                rule.add(Spec.NOT, 0);
                return good;
            }
            if (c == '(') {
                if (!tape.canOpen(open)) {
                    return false;
                }
                tape.skip();
                return readChoice(open + 1) && tape.pass(')');
            }
            return readComparison(open);
        }

        private boolean readComparison(int open) {
            if (!readTerms(open)) {
                return false;
            }
            int c = tape.sign();
            if (c != '<' && c != '>' && c != '=') {
                return tape.refuse(FAULT_PLACE);
            }
            tape.skip();
            boolean good = readTerms(open);
            rule.add(c, 0);
            return good;
        }

        private boolean readTerms(int open) {
            boolean good = readFactors(open);
            for (int i = 0; i < TEXT && good && isSum(tape.sign()); i++) {
                int c = tape.sign();
                tape.skip();
                good = readFactors(open);
                rule.add(c, 0);
            }
            return good;
        }

        private boolean readFactors(int open) {
            boolean good = readFactor(open);
            for (int i = 0; i < TEXT && good && isProduct(tape.sign()); i++) {
                int c = tape.sign();
                tape.skip();
                good = readFactor(open);
                rule.add(c, 0);
            }
            return good;
        }

        private static boolean isSum(int c) {
            return c == '+' || c == '-';
        }

        private static boolean isProduct(int c) {
            return c == '*' || c == '/' || c == '%';
        }

        private boolean readFactor(int open) {
            int c = tape.sign();
            if (c == '[') {
                if (!tape.canOpen(open)) {
                    return false;
                }
                tape.skip();
                return readTerms(open + 1) && tape.pass(']');
            }
            if (within(c, '0', '9')) {
                return readNumber();
            }
            int letter = letterOf(c);
            if (letter == NONE) {
                return tape.refuse(FAULT_PLACE);
            }
            rule.add(Spec.LETTER, letter);
            tape.skip();
            return true;
        }

        private boolean readNumber() {
            int x = 0;
            for (int i = 0; i < DIGITS && within(tape.sign(), '0', '9'); i++) {
                x = 10 * x + tape.sign() - '0';
                tape.skip();
            }
            if (within(tape.sign(), '0', '9')) {
                return tape.refuse(FAULT_DIGIT);
            }
            rule.add(Spec.NUMBER, x);
            return true;
        }

        private static int letterOf(int c) {
            if (within(c, 'a', 'f')) {
                return c - 'a' + Course.AT_BEGINNING;
            }
            if (within(c, 'A', 'F')) {
                return c - 'A' + Course.AT_END;
            }
            switch (c) {
                case 's':
                    return Course.KNOWN_SPILT;
                case 'l':
                    return Course.KNOWN_CLOTH;
                case 'n':
                    return Course.KNOWN_STEPS;
                case 'k':
                    return Course.KNOWN_ENDED;
                default:
                    return NONE;
            }
        }
    }

    /** A RUN on its way. */
    private static final class Course {
        static final int AT_BEGINNING = 0;
        static final int AT_END = 6;
        static final int KNOWN_SPILT = 12;
        static final int KNOWN_CLOTH = 13;
        static final int KNOWN_STEPS = 14;
        static final int KNOWN_ENDED = 15;
        private static final int FIRST_WAIT = 8;

        private final Vats vats;
        final int[] begin = new int[VATS];
        final int[] now = new int[VATS];
        int spilt;
        int cloth;
        int colour;
        int steps;
        int place;
        int ended;
        // A standing on the way, by which a RUN in a ROUND is felt.
        private final int[] markNow = new int[VATS];
        private int markPlace;
        private int markSteps;
        private int markSpilt;
        private int markCloth;
        private int markColour;

        Course(Vats vats) {
            this.vats = vats;
        }

        void start(int[] measures, int firstColour) {
            copyMeasures(measures, begin);
            copyMeasures(measures, now);
            spilt = 0;
            cloth = 0;
            colour = firstColour;
            steps = 0;
            place = 0;
            ended = 0;
        }

        void copy(Course from) {
            copyMeasures(from.begin, begin);
            copyMeasures(from.now, now);
            spilt = from.spilt;
            cloth = from.cloth;
            colour = from.colour;
            steps = from.steps;
            place = from.place;
            ended = from.ended;
        }

        boolean isOver(Recipe recipe) {
            return place >= recipe.size;
        }

        boolean standsWith(Course other) {
            return place == other.place && hasMeasuresOf(other);
        }

        boolean hasMeasuresOf(Course other) {
            for (int v = 0; v < VATS; v++) {
                if (now[v] != other.now[v]) {
                    return false;
                }
            }
            return true;
        }

        void go(Recipe recipe, int limit) {
            int wait = FIRST_WAIT;
            mark();
            for (int i = 0; i <= limit && ended == 0; i++) {
                if (place >= recipe.size) {
                    ended = ENDED_LAST;
                } else if (steps >= limit) {
                    ended = ENDED_LIMIT;
                } else {
                    step(recipe, 1);
                    if (place == markPlace && isAtMark()) {
                        leap(limit);
                    } else if (steps - markSteps >= wait) {
                        mark();
                        wait *= 2;
                    }
                }
            }
        }

        private void mark() {
            copyMeasures(now, markNow);
            markPlace = place;
            markSteps = steps;
            markSpilt = spilt;
            markCloth = cloth;
            markColour = colour;
        }

        private boolean isAtMark() {
            for (int v = 0; v < VATS; v++) {
                if (now[v] != markNow[v]) {
                    return false;
                }
            }
            return true;
        }

        // Back at the mark, all goes on as it went since: as many ROUNDS as the LIMIT has room for are
        // reckoned at once, as most RUNS that end by their LIMIT are short ROUNDS.
        private void leap(int limit) {
            int length = steps - markSteps;
            int rounds = length > 0 ? (limit - steps) / length : 0;
            int taken = cloth - markCloth;
            int factor = 1;
            for (int i = 0; i < taken; i++) {
                factor = 7 * factor % COLOURS;
            }
            int more = Math.floorMod(colour - factor * markColour, COLOURS);
            for (int i = 0; i < rounds; i++) {
                colour = (factor * colour + more) % COLOURS;
            }
            spilt += rounds * (spilt - markSpilt);
            cloth += rounds * taken;
            steps += rounds * length;
        }

        // One STEP; what changes MEASURES is done so many times.
        void step(Recipe recipe, int times) {
            int at = place;
            if (!within(at, 0, recipe.size - 1)) {
                return;
            }
            steps++;
            int item = recipe.code[at];
            place = recipe.next[at];
            if (item == TEST) {
                if (findsEmpty(recipe.first[at])) {
                    place = recipe.other[at];
                }
            } else if (item == STOP) {
                ended = ENDED_STOP;
                place = recipe.size;
            } else {
                for (int i = 0; i < times; i++) {
                    act(item, recipe.first[at], recipe.second[at]);
                }
            }
            kindsWork();
        }

        void act(int item, int x, int y) {
            if (item == DIP) {
                dip(x);
            } else if (item == TAKE) {
                take(x);
            } else if (x != y) {
                int wanted = item == POUR ? now[x] : now[x] / 2;
                int poured = Math.min(wanted, vats.brim[y] - now[y]);
                now[x] -= poured;
                now[y] += poured;
            }
        }

        private void dip(int v) {
            if (now[v] < vats.brim[v]) {
                now[v]++;
            } else {
                spilt++;
            }
        }

        private void take(int v) {
            if (now[v] > 0) {
                now[v]--;
                cloth++;
                colour = (7 * colour + v + 1) % COLOURS;
            }
        }

        private boolean findsEmpty(int v) {
            return vats.kind[v] == BLIND || now[v] == 0;
        }

        void kindsWork() {
            if (!vats.restless) {
                return;
            }
            for (int v = 0; v < VATS; v++) {
                if (vats.kind[v] == LEAKING && now[v] > 0) {
                    now[v]--;
                    spilt++;
                }
            }
            for (int v = 0; v < VATS; v++) {
                if (vats.kind[v] == JOINED) {
                    flow(v, v + 1 < VATS ? v + 1 : 0);
                }
            }
        }

        private void flow(int from, int to) {
            if (now[from] >= now[to] + 2 && now[to] < vats.brim[to]) {
                now[from]--;
                now[to]++;
            }
        }

        int known(int letter) {
            if (within(letter, AT_BEGINNING, AT_BEGINNING + VATS - 1)) {
                return begin[letter - AT_BEGINNING];
            }
            if (within(letter, AT_END, AT_END + VATS - 1)) {
                return now[letter - AT_END];
            }
            switch (letter) {
                case KNOWN_SPILT:
                    return spilt;
                case KNOWN_CLOTH:
                    return cloth;
                case KNOWN_STEPS:
                    return steps;
                default:
                    return ended;
            }
        }
    }

    /** Goes through all BEGINNINGS; all three questions answer how many, or a MEASURE of the first. */
    private static final class Survey {
        static final int CHOSEN_MOST = 3;
        static final int BOUND_MOST = 20;

        private final Vats vats;
        private final Course one;
        private final Course two;
        private final int[] begin = new int[VATS];
        // How many MEASURES each VAT goes through: 1 is a VAT that stays as it is.
        private final int[] ways = new int[VATS];
        private int all;

        Survey(Vats vats, Course one, Course two) {
            this.vats = vats;
            this.one = one;
            this.two = two;
        }

        void lay(int bits, int bound) {
            all = 1;
            for (int v = 0; v < VATS; v++) {
                boolean chosen = (bits >> v & 1) != 0;
                ways[v] = chosen ? Math.min(bound, vats.brim[v]) + 1 : 1;
                begin[v] = chosen ? 0 : vats.measure[v];
                all *= ways[v];
            }
        }

        // The highest VAT is the fastest; one that stays is passed over, as it has no second way.
        private void goOn() {
            for (int v = VATS - 1; v >= 0; v--) {
                if (ways[v] > 1) {
                    begin[v]++;
                    if (begin[v] < ways[v]) {
                        return;
                    }
                    begin[v] = 0;
                }
            }
        }

        int unproved(Recipe recipe, Spec rule, int what) {
            int found = 0;
            for (int i = 0; i < all; i++) {
                follow(one, recipe);
                if (!rule.holds(one)) {
                    if (what != NONE) {
                        return begin[what];
                    }
                    found++;
                }
                goOn();
            }
            return what == NONE ? found : -2;
        }

        int unlike(Recipe recipe, Recipe other, int what) {
            int found = 0;
            for (int i = 0; i < all; i++) {
                follow(one, recipe);
                follow(two, other);
                if (one.ended != two.ended || !one.hasMeasuresOf(two)) {
                    if (what != NONE) {
                        return begin[what];
                    }
                    found++;
                }
                goOn();
            }
            return what == NONE ? found : -2;
        }

        int coloured(Recipe recipe, int colour, int what) {
            int found = 0;
            for (int i = 0; i < all; i++) {
                follow(one, recipe);
                if (one.colour == colour) {
                    if (what != NONE) {
                        return begin[what];
                    }
                    found++;
                }
                goOn();
            }
            return what == NONE ? found : -2;
        }

        private void follow(Course course, Recipe recipe) {
            course.start(begin, 0);
            course.go(recipe, SURVEY_LIMIT);
        }
    }

    /** Looks for a ROUND by a slow and a fast one, which needs no memory of all standings. */
    private static final class Ring {
        static final int ENDS = 0;
        static final int FOUND = 1;
        static final int NEITHER = 2;
        private static final int WITHIN = 20000;
        // A ROUND within 20000 is met by the fast one long before this.
        private static final int FAST_MOST = 65536;

        private final Vats vats;
        private final Course slow;
        private final Course fast;
        int outcome;
        int ahead;
        int length;

        Ring(Vats vats, Course slow, Course fast) {
            this.vats = vats;
            this.slow = slow;
            this.fast = fast;
        }

        void seek(Recipe recipe) {
            outcome = NEITHER;
            if (!findLength(recipe)) {
                if (fast.isOver(recipe) && fast.steps <= WITHIN) {
                    outcome = ENDS;
                }
                return;
            }
            if (length > WITHIN) {
                return;
            }
            findAhead(recipe);
            if (ahead + length <= WITHIN) {
                outcome = FOUND;
            }
        }

        // The slow one waits at ever farther standings, each twice as long, till the fast one is back.
        private boolean findLength(Recipe recipe) {
            slow.start(vats.measure, 0);
            fast.start(vats.measure, 0);
            int wait = 1;
            length = 0;
            for (int i = 0; i < FAST_MOST && !fast.isOver(recipe); i++) {
                fast.step(recipe, 1);
                length++;
                if (slow.standsWith(fast)) {
                    return true;
                }
                if (length == wait) {
                    slow.copy(fast);
                    wait *= 2;
                    length = 0;
                }
            }
            return false;
        }

        private void findAhead(Recipe recipe) {
            slow.start(vats.measure, 0);
            fast.start(vats.measure, 0);
            for (int i = 0; i < length; i++) {
                fast.step(recipe, 1);
            }
            ahead = 0;
            for (int i = 0; i < WITHIN && !slow.standsWith(fast); i++) {
                slow.step(recipe, 1);
                fast.step(recipe, 1);
                ahead++;
            }
        }
    }

    /** Looks for THE SHORTEST row of ACTS, nearest standings first. */
    private static final class Paths {
        static final int MOST_ACTS = 100;
        private static final int STANDINGS = 20000;
        private static final int ACTS = 84;

        private final Vats vats;
        private final Course course;
        final int[] target = new int[VATS];
        final int[] row = new int[MOST_ACTS];
        private final int[] base = new int[VATS];
        private final int[] weight = new int[VATS];
        // What each ACT is, by its number.
        private final int[] item = new int[ACTS];
        private final int[] first = new int[ACTS];
        private final int[] second = new int[ACTS];
        // Where a standing was come to from, and by which ACT; 0: not yet.
        private final int[] from = new int[STANDINGS];
        private final int[] queue = new int[STANDINGS];
        private int queued;

        Paths(Vats vats, Course course) {
            this.vats = vats;
            this.course = course;
            for (int act = 0; act < ACTS; act++) {
                int pair = Math.max(act - 12, 0) % 36;
                item[act] = act < 6 ? DIP : act < 12 ? TAKE : act < 48 ? POUR : HALF;
                first[act] = act < 12 ? act % 6 : pair / 6;
                second[act] = act < 12 ? 0 : pair % 6;
            }
        }

        boolean canSeek() {
            return standings() > 0 && vats.hold(target);
        }

        // How many standings there are; 0: too many.
        private int standings() {
            int all = 1;
            for (int v = 0; v < VATS; v++) {
                weight[v] = all;
                all *= vats.brim[v] + 1;
                if (all > STANDINGS) {
                    return 0;
                }
            }
            return all;
        }

        private int indexOf(int[] measures) {
            int index = 0;
            for (int v = 0; v < VATS; v++) {
                index += weight[v] * measures[v];
            }
            return index;
        }

        private void unfold(int index) {
            int rest = index;
            for (int v = 0; v < VATS; v++) {
                int ways = vats.brim[v] + 1;
                base[v] = ways > 0 ? rest % ways : 0;
                rest = ways > 0 ? rest / ways : 0;
            }
        }

        // How many ACTS; NONE: there is no such row. Standings are queued by their first rows.
        int seek() {
            Arrays.fill(from, 0, standings(), 0);
            int start = indexOf(vats.measure);
            int end = indexOf(target);
            if (start == end) {
                return 0;
            }
            from[start] = NONE;
            queue[0] = start;
            queued = 1;
            course.start(vats.measure, 0);
            int level = 0;
            for (int depth = 1; depth <= MOST_ACTS && level < queued; depth++) {
                int levelEnd = queued;
                for (int i = level; i < levelEnd; i++) {
                    if (goFrom(queue[i], end)) {
                        retrace(end, depth);
                        return depth;
                    }
                }
                level = levelEnd;
            }
            return NONE;
        }

        private boolean goFrom(int index, int end) {
            boolean idled = false;
            unfold(index);
            for (int act = 0; act < ACTS; act++) {
                boolean idle = isIdle(item[act], first[act], second[act]);
                // All idle ACTS lead to one standing, of which the first has been there already.
                if (!idle || !idled) {
                    copyMeasures(base, course.now);
                    course.act(item[act], first[act], second[act]);
                    course.kindsWork();
                    if (comeTo(indexOf(course.now), index * ACTS + act + 1) && queue[queued - 1] == end) {
                        return true;
                    }
                }
                idled |= idle;
            }
            return false;
        }

        private boolean isIdle(int act, int x, int y) {
            if (act == DIP) {
                return base[x] >= vats.brim[x];
            }
            if (act == TAKE) {
                return base[x] == 0;
            }
            return x == y || base[x] < (act == HALF ? 2 : 1) || base[y] >= vats.brim[y];
        }

        // Whether it is the first time.
        private boolean comeTo(int index, int by) {
            if (!within(index, 0, STANDINGS - 1) || from[index] != 0 || queued >= STANDINGS) {
                return false;
            }
            from[index] = by;
            queue[queued] = index;
            queued++;
            return true;
        }

        private void retrace(int end, int acts) {
            int at = end;
            for (int i = acts - 1; i >= 0; i--) {
                int step = from[at] - 1;
                if (step < 0) {
                    return;
                }
                row[i] = step % ACTS;
                at = step / ACTS;
            }
        }
    }

    /** The SUMS of a MARKET DAY. */
    private static final class Market {
        static final int SUMS = 8;
        private static final int SUM_LIMIT = 1000;

        private final Vats vats;
        private final Course course;
        final int[] offered = new int[VATS];
        final int[] recipeOf = new int[SUMS];
        private final int[] due = new int[SUMS];
        private final int[] price = new int[SUMS];
        private final int[] measures = new int[SUMS * VATS];
        private final int[] begin = new int[VATS];
        private final int[] steps = new int[SUMS];
        // For SUMS that are done already (bits): the least PRICES of all the rest.
        final int[] best = new int[1 << SUMS];
        int told;

        Market(Vats vats, Course course) {
            this.vats = vats;
            this.course = course;
        }

        boolean isOfferGood() {
            for (int v = 0; v < VATS; v++) {
                if (offered[v] > MOST) {
                    return false;
                }
            }
            return true;
        }

        void take(int i, int w, int newDue, int newPrice) {
            recipeOf[i] = w;
            due[i] = newDue;
            price[i] = newPrice;
            System.arraycopy(offered, 0, measures, i * VATS, VATS);
            told |= 1 << i;
        }

        int stepsOf(int i, Recipe recipe) {
            for (int v = 0; v < VATS; v++) {
                begin[v] = Math.min(measures[i * VATS + v], vats.brim[v]);
            }
            course.start(begin, 0);
            course.go(recipe, SUM_LIMIT);
            steps[i] = course.steps;
            return steps[i];
        }

        void weigh(int sums) {
            for (int over = sums; over >= 0; over--) {
                if ((over & ~sums) == 0) {
                    int next = firstBest(sums, over);
                    best[over] = next == NONE ? 0 : pricesBy(over, next);
                }
            }
        }

        int placed(int sums, int place) {
            int over = 0;
            int next = NONE;
            for (int i = 0; i <= place && i < SUMS; i++) {
                next = firstBest(sums, over);
                if (next == NONE) {
                    return NONE;
                }
                over |= 1 << next;
            }
            return next;
        }

        // Of like ones the lowest SUM, so that the row is the least one.
        private int firstBest(int sums, int over) {
            int found = NONE;
            int least = 0;
            for (int i = 0; i < SUMS; i++) {
                if (((sums & ~over) >> i & 1) != 0) {
                    int prices = pricesBy(over, i);
                    if (found == NONE || prices < least) {
                        found = i;
                        least = prices;
                    }
                }
            }
            return found;
        }

        private int pricesBy(int over, int i) {
            int time = steps[i];
            for (int j = 0; j < SUMS; j++) {
                if ((over >> j & 1) != 0) {
                    time += steps[j];
                }
            }
            return price[i] * Math.max(0, time - due[i]) + best[over | 1 << i];
        }
    }
}
