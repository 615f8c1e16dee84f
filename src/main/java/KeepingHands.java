import java.util.NoSuchElementException;

/** A thing that goes from hand to hand, and the laws by which each hand answers for it. */
public final class KeepingHands {
    public static final int NONE = -1;

    private static final int MOST_BYTES = 500;
    private static final int BYTES_A_FEED = 20;
    private static final int MOST_LAWS = 4;
    private static final int MOST_CLAUSES = 24;
    private static final int MOST_OPEN = 6;
    private static final int MOST_HANDS = 13;
    private static final int MOST_QUESTIONS = 8;
    private static final int MOST_CASES = 1 << MOST_QUESTIONS;
    private static final int MOST_PUTTINGS = 20;
    private static final int MOST_IMAGES = 3;

    private static final int KEEPINGS = 6;
    private static final int HARMS = 6;
    private static final int TERMS = 4;
    private static final int OWNERS = 6;
    private static final int HAND_ENTRIES = 6;
    private static final int TOP_AMOUNT = 9999;
    private static final int TOP_DAY = 999;
    private static final int TOP_PUTTING = 999;
    private static final int FIRST_VALUE = 100;

    private static final int NAMES = 8;
    private static final int LATE = 3;
    private static final int PASSED = 4;
    private static final int TERM = 5;
    private static final int VALUE = 6;
    private static final int DAYS = 7;

    private static final int FACTS = 4;
    private static final int SWORE = 3;
    private static final int OTHER_HARM = 4;
    private static final int OTHER_DAY = 5;

    private static final int NAME_BITS = 5;
    private static final int BIT_CASES = 1 << NAME_BITS;
    private static final int LAW_CASES = BIT_CASES * KEEPINGS * HARMS;
    private static final int PARTING_VALUE = 100;
    private static final int PARTING_DAYS = 10;

    private static final int MISPLACED = 1;
    private static final int NO_SUCH_NUMBER = 2;
    private static final int TOO_MANY = 3;
    private static final int LESS_THAN_FAULT = 10;

    private final int[] tape = new int[MOST_BYTES];
    private int tapeLength;
    private final Law[] laws = new Law[MOST_LAWS];
    private int lawCount;
    private final Law noLaw = new Law();
    private final LawReader reader = new LawReader();
    private int faultPlace = NONE;
    private final int[] names = new int[NAMES];
    private final Chain chain = new Chain();
    private final Chain trial = new Chain();
    private final Chain[] images = new Chain[MOST_IMAGES];
    private int imageCount;
    private final End end = new End();
    private final int[] caseBears = new int[MOST_CASES * MOST_HANDS];

    public KeepingHands() {
        for (int i = 0; i < MOST_LAWS; i++) {
            laws[i] = new Law();
        }
        for (int i = 0; i < MOST_IMAGES; i++) {
            images[i] = new Chain();
        }
    }

    public int feed(int a, int b, int c, int d, int e) {
        if (tapeLength + BYTES_A_FEED > MOST_BYTES) {
            return NONE;
        }
        layOnTape(a);
        layOnTape(b);
        layOnTape(c);
        layOnTape(d);
        layOnTape(e);
        return tapeLength;
    }

    public int law(int n) throws IllegalArgumentException {
        need(isWithin(n, tapeLength));
        tapeLength = 0;
        faultPlace = NONE;
        if (lawCount >= MOST_LAWS) {
            return -1;
        }
        int found = reader.readLaw(tape, n, laws[lawCount]);
        if (found != 0) {
            faultPlace = reader.place;
            return found - LESS_THAN_FAULT;
        }
        lawCount++;
        return lawCount - 1;
    }

    public int fault() {
        return faultPlace;
    }

    public int force(int law) throws IllegalArgumentException {
        need(law == NONE || isLaw(law));
        int before = chain.inForce;
        chain.inForce = law;
        return before;
    }

    public int words(int law, int of, int term, int value, int days, int what) throws IllegalArgumentException {
        need(isLaw(law) && isWithin(of, LAW_CASES - 1) && isWithin(term, TERMS - 1));
        need(isWithin(value, TOP_AMOUNT) && isWithin(days, TOP_AMOUNT) && isWithin(what, 2));
        nameCase(of, term, value, days);
        int keeping = keepingOfCase(of);
        if (what == 2) {
            return laws[law].owedFor(keeping, names);
        }
        int sort = what == 0 ? Law.ANSWERS : Law.SWEARS;
        return laws[law].holdsFor(sort, keeping, harmOfCase(of), names) ? 1 : 0;
    }

    public boolean lets(int law, int keeping, int term) throws IllegalArgumentException {
        need(isLaw(law) && isWithin(keeping, KEEPINGS - 1) && isWithin(term, TERMS - 1));
        return term == 0 ? laws[law].doubles(keeping) : laws[law].allows(keeping, term);
    }

    public int pass(int keeping, int day, int till, int term, boolean leave) throws IllegalArgumentException {
        need(isWithin(keeping, KEEPINGS - 1) && isWithin(day, TOP_DAY));
        need(isWithin(till, TOP_DAY) && isWithin(term, TERMS - 1));
        if (chain.handCount >= MOST_HANDS) {
            return -1;
        }
        // HAND 0 bears the day NONE, so that the first PASSING is never too early.
        if (day < chain.hands[chain.handCount - 1].day) {
            return -2;
        }
        Hand hand = chain.hands[chain.handCount];
        hand.clear();
        hand.keeping = keeping;
        hand.day = day;
        hand.till = till;
        hand.term = term;
        hand.leave = leave ? 1 : 0;
        chain.handCount++;
        return chain.handCount - 1;
    }

    public int hand(int hand, int what) throws NoSuchElementException, IllegalArgumentException {
        needHand(hand);
        need(isWithin(what, HAND_ENTRIES - 1));
        return chain.hands[hand].entry(what);
    }

    public int value(int v) throws IllegalArgumentException {
        need(isWithin(v, TOP_AMOUNT));
        int before = chain.value;
        chain.value = v;
        return before;
    }

    public int purse(int hand, int v) throws NoSuchElementException, IllegalArgumentException {
        needHand(hand);
        need(isWithin(v, TOP_AMOUNT));
        int before = chain.hands[hand].purse;
        chain.hands[hand].purse = v;
        return before;
    }

    public boolean fact(int hand, int fact, boolean is) throws NoSuchElementException, IllegalArgumentException {
        needHand(hand);
        need(isWithin(fact, FACTS - 1));
        boolean before = chain.hands[hand].hasFact(fact);
        chain.hands[hand].tellFact(fact, is);
        return before;
    }

    public int harm(int harm, int day) throws IllegalArgumentException {
        need(harm == NONE || isWithin(harm, HARMS - 1));
        need(isWithin(day, TOP_DAY));
        int before = chain.harm;
        chain.harm = harm;
        chain.harmDay = day;
        return before;
    }

    public int holder() {
        return chain.latestHolder();
    }

    public int name(int hand, int what) throws NoSuchElementException, IllegalArgumentException {
        needHand(hand);
        need(isWithin(what, NAMES - 1));
        int holder = chain.latestHolder();
        if (hand < 1 || hand > holder) {
            return NONE;
        }
        chain.nameHand(hand, holder, lawInForce(), names);
        return names[what];
    }

    public int claim(int hand) throws NoSuchElementException {
        needHand(hand);
        end.reckon(chain, lawInForce());
        return end.claims[hand];
    }

    public int whom(int hand) throws NoSuchElementException {
        needHand(hand);
        end.reckon(chain, lawInForce());
        return end.whoms[hand];
    }

    public int pays(int hand) throws NoSuchElementException {
        needHand(hand);
        end.reckon(chain, lawInForce());
        return end.payments[hand];
    }

    public int bears(int hand) throws NoSuchElementException {
        needHand(hand);
        end.reckon(chain, lawInForce());
        return end.burdens[hand];
    }

    public boolean must(int hand) throws NoSuchElementException {
        needHand(hand);
        end.reckon(chain, lawInForce());
        return end.mustSwear[hand];
    }

    public int frees(int hand) throws NoSuchElementException {
        needHand(hand);
        end.reckon(chain, lawInForce());
        int before = end.burdens[hand];
        trial.setTo(chain);
        trial.hands[hand].tellFact(SWORE, true);
        end.reckon(trial, lawInForce());
        return before - end.burdens[hand];
    }

    public int question(int sort, int hand, int other) throws NoSuchElementException, IllegalArgumentException {
        if (isWithin(sort, FACTS - 1)) {
            needHand(hand);
        } else {
            need(sort == OTHER_HARM && isWithin(other, HARMS - 1) || sort == OTHER_DAY && isWithin(other, TOP_DAY));
        }
        return chain.ask(sort, hand, other);
    }

    public int inCase(int bits, int hand) throws NoSuchElementException, IllegalArgumentException {
        needHand(hand);
        need(isWithin(bits, allCases() - 1));
        trial.setTo(chain);
        trial.suppose(chain, bits);
        end.reckon(trial, lawInForce());
        return end.burdens[hand];
    }

    public int sure(int hand) throws NoSuchElementException {
        needHand(hand);
        reckonCases();
        int some = burdenedCases(hand);
        if (some == allCases()) {
            return 2;
        }
        return some > 0 ? 1 : 0;
    }

    public int cases(int hand) throws NoSuchElementException {
        needHand(hand);
        reckonCases();
        return burdenedCases(hand);
    }

    public int hangs(int hand) throws NoSuchElementException {
        needHand(hand);
        reckonCases();
        for (int q = 0; q < chain.questionCount; q++) {
            int alike = casesLikeBit(hand, q);
            if (alike == 0 || alike == allCases()) {
                return q;
            }
        }
        return NONE;
    }

    /**
     * As every set of bits is a CASE, a set settles all just when no QUESTION outside it can
     * by itself change what is borne: so the ones that can are the LEAST.
     */
    public int least() {
        reckonCases();
        int set = 0;
        for (int q = 0; q < chain.questionCount; q++) {
            if (matters(q)) {
                set |= 1 << q;
            }
        }
        return set;
    }

    public int find(int question, boolean is) throws NoSuchElementException {
        if (!isWithin(question, chain.questionCount - 1)) {
            throw new NoSuchElementException("no such QUESTION");
        }
        int sort = chain.questions[question].sort;
        chain.tell(chain.questions[question], is, chain);
        chain.dropQuestion(question);
        return sort;
    }

    public int title() {
        end.reckon(chain, lawInForce());
        return end.titleFor(chain.value);
    }

    public int found(int hand, int grown) throws NoSuchElementException, IllegalArgumentException {
        needHand(hand);
        need(isWithin(grown, TOP_AMOUNT));
        end.reckon(chain, lawInForce());
        if (end.titleFor(chain.value) != hand) {
            return 0;
        }
        boolean twice = end.mustSwear[hand] && lawInForce().doubles(chain.hands[hand].keeping);
        return twice ? 2 * grown : grown;
    }

    public int put(int owner, int many) throws IllegalArgumentException {
        need(isWithin(owner, OWNERS - 1) && isWithin(many, TOP_PUTTING));
        return chain.goods.add(owner, many) ? chain.goods.all() : -1;
    }

    public int share(int owner, int lost) throws IllegalArgumentException {
        need(isWithin(owner, OWNERS - 1) && isWithin(lost, chain.goods.all()));
        int mixing = lawInForce().mixing;
        if (mixing == Law.BY_PARTS) {
            return lost * chain.goods.allOf(owner);
        }
        return mixing == Law.BY_LAST ? chain.goods.all() * chain.goods.lostLast(owner, lost) : 0;
    }

    public int judge(int hand, int v) throws NoSuchElementException, IllegalArgumentException {
        needHand(hand);
        need(isWithin(v, TOP_AMOUNT));
        int before = chain.hands[hand].judged;
        chain.hands[hand].judged = v;
        return before;
    }

    public int wrong() {
        end.reckon(chain, lawInForce());
        for (int k = 1; k < chain.handCount; k++) {
            if (chain.hands[k].judged != end.claims[k]) {
                return k;
            }
        }
        return NONE;
    }

    public int parting(int law, int other) throws IllegalArgumentException {
        need(isLaw(law) && isLaw(other));
        for (int of = 0; of < LAW_CASES; of++) {
            nameCase(of, 0, PARTING_VALUE, PARTING_DAYS);
            int keeping = keepingOfCase(of);
            int harm = harmOfCase(of);
            if (laws[law].claimFor(keeping, harm, names) != laws[other].claimFor(keeping, harm, names)) {
                return of;
            }
        }
        return NONE;
    }

    public int beside(int law, int hand) throws NoSuchElementException, IllegalArgumentException {
        needHand(hand);
        need(isLaw(law));
        end.reckon(chain, laws[law]);
        return end.burdens[hand];
    }

    public int image() {
        if (imageCount >= MOST_IMAGES) {
            return -1;
        }
        images[imageCount].setTo(chain);
        imageCount++;
        return imageCount;
    }

    public int restore() {
        if (imageCount < 1) {
            return -1;
        }
        imageCount--;
        chain.setTo(images[imageCount]);
        return imageCount;
    }

    public int count(int what) {
        switch (what) {
            case 0: return lawCount;
            case 1: return chain.handCount;
            case 2: return chain.questionCount;
            case 3: return chain.goods.all();
            case 4: return chain.goods.puttings;
            case 5: return imageCount;
            case 6: return tapeLength;
            case 7: return chain.value;
            default: return NONE;
        }
    }

    private static void need(boolean holds) throws IllegalArgumentException {
        if (!holds) {
            throw new IllegalArgumentException("none such");
        }
    }

    private void needHand(int hand) throws NoSuchElementException {
        if (!isWithin(hand, chain.handCount - 1)) {
            throw new NoSuchElementException("no such HAND");
        }
    }

    private static boolean isWithin(int number, int most) {
        return number >= 0 && number <= most;
    }

    private boolean isLaw(int law) {
        return isWithin(law, lawCount - 1);
    }

    /** Having no LAW in force is like having one without CLAUSES. */
    private Law lawInForce() {
        return isLaw(chain.inForce) ? laws[chain.inForce] : noLaw;
    }

    private void layOnTape(int number) {
        for (int shift = 24; shift >= 0 && tapeLength < MOST_BYTES; shift -= 8) {
            tape[tapeLength] = number >> shift & 255;
            tapeLength++;
        }
    }

    private static int keepingOfCase(int of) {
        return of / BIT_CASES / HARMS;
    }

    private static int harmOfCase(int of) {
        return of / BIT_CASES % HARMS;
    }

    private void nameCase(int of, int term, int value, int days) {
        for (int i = 0; i < NAME_BITS; i++) {
            names[i] = of >> i & 1;
        }
        names[TERM] = term;
        names[VALUE] = value;
        names[DAYS] = days;
    }

    private int allCases() {
        return 1 << chain.questionCount;
    }

    private void reckonCases() {
        trial.setTo(chain);
        for (int bits = 0; bits < allCases(); bits++) {
            trial.suppose(chain, bits);
            end.reckon(trial, lawInForce());
            System.arraycopy(end.burdens, 0, caseBears, bits * MOST_HANDS, MOST_HANDS);
        }
    }

    private boolean isBurdened(int hand, int bits) {
        return caseBears[bits * MOST_HANDS + hand] > 0;
    }

    private int burdenedCases(int hand) {
        int some = 0;
        for (int bits = 0; bits < allCases(); bits++) {
            if (isBurdened(hand, bits)) {
                some++;
            }
        }
        return some;
    }

    private int casesLikeBit(int hand, int question) {
        int alike = 0;
        for (int bits = 0; bits < allCases(); bits++) {
            if (isBurdened(hand, bits) == ((bits >> question & 1) == 1)) {
                alike++;
            }
        }
        return alike;
    }

    private boolean matters(int question) {
        for (int bits = 0; bits < allCases(); bits++) {
            if (!areBorneAlike(bits, bits & ~(1 << question))) {
                return true;
            }
        }
        return false;
    }

    private boolean areBorneAlike(int bits, int others) {
        for (int k = 0; k < MOST_HANDS; k++) {
            if (caseBears[bits * MOST_HANDS + k] != caseBears[others * MOST_HANDS + k]) {
                return false;
            }
        }
        return true;
    }

    /** A LAW that has been read; its C and E stand as steps for a stack, each operator behind its sides. */
    private static final class Law {
        static final int ANSWERS = 0;
        static final int SWEARS = 1;
        static final int OWES = 2;
        static final int LETS = 3;
        static final int TWICE = 4;
        static final int MIXED = 5;

        static final int BY_PARTS = 0;
        static final int BY_LAST = 1;

        // Steps below NAMES are names, those from NUMBER on are numbers, the others are operators.
        static final int LEAST = 'l';
        static final int MOST = 'm';
        static final int NOT = '!';
        static final int AND = '&';
        static final int OR = '|';
        static final int NUMBER = 256;

        // What waits for its right side: of or, and, a comparison, + and *; in each ( again of +, * and least.
        private static final int STACK = 6 + 3 * MOST_OPEN;

        int mixing = NONE;
        private int clauses;
        private final int[] sorts = new int[MOST_CLAUSES];
        private final int[] keepings = new int[MOST_CLAUSES];
        private final int[] things = new int[MOST_CLAUSES];
        private final int[] starts = new int[MOST_CLAUSES];
        private final int[] ends = new int[MOST_CLAUSES];
        private final int[] steps = new int[MOST_BYTES];
        private int stepCount;
        private final int[] stack = new int[STACK];

        void clear() {
            clauses = 0;
            stepCount = 0;
            mixing = NONE;
        }

        boolean isFull() {
            return clauses >= MOST_CLAUSES;
        }

        void beginClause(int sort, int forKeepings) {
            if (isFull()) {
                return;
            }
            sorts[clauses] = sort;
            keepings[clauses] = forKeepings;
            things[clauses] = 0;
            starts[clauses] = stepCount;
            ends[clauses] = stepCount;
            clauses++;
        }

        /** HARMS or TERMS of the latest CLAUSE, as bits. */
        void include(int more) {
            if (clauses > 0) {
                things[clauses - 1] |= more;
            }
        }

        void addStep(int step) {
            if (clauses > 0 && stepCount < MOST_BYTES) {
                steps[stepCount] = step;
                stepCount++;
                ends[clauses - 1] = stepCount;
            }
        }

        boolean holdsFor(int sort, int keeping, int harm, int[] names) {
            for (int i = 0; i < clauses; i++) {
                if (isFor(i, sort, keeping) && has(things[i], harm) && (starts[i] == ends[i] || work(i, names) != 0)) {
                    return true;
                }
            }
            return false;
        }

        int owedFor(int keeping, int[] names) {
            for (int i = clauses - 1; i >= 0; i--) {
                if (isFor(i, OWES, keeping)) {
                    return Math.max(0, Math.min(TOP_AMOUNT, work(i, names)));
                }
            }
            return names[VALUE];
        }

        /** The CLAIM on one who has not sworn. */
        int claimFor(int keeping, int harm, int[] names) {
            boolean answers = holdsFor(ANSWERS, keeping, harm, names) || holdsFor(SWEARS, keeping, harm, names);
            return answers ? owedFor(keeping, names) : 0;
        }

        boolean allows(int keeping, int term) {
            for (int i = 0; i < clauses; i++) {
                if (isFor(i, LETS, keeping) && has(things[i], term)) {
                    return true;
                }
            }
            return false;
        }

        boolean doubles(int keeping) {
            for (int i = 0; i < clauses; i++) {
                if (isFor(i, TWICE, keeping)) {
                    return true;
                }
            }
            return false;
        }

        private boolean isFor(int clause, int sort, int keeping) {
            return sorts[clause] == sort && (keepings[clause] >> keeping & 1) == 1;
        }

        private static boolean has(int set, int element) {
            return (set >> element & 1) == 1;
        }

        private int work(int clause, int[] names) {
            int top = 0;
            for (int i = starts[clause]; i < ends[clause]; i++) {
                int step = steps[i];
                if (step < NAMES || step >= NUMBER) {
                    if (top < STACK) {
                        stack[top] = step < NAMES ? names[step] : step - NUMBER;
                        top++;
                    }
                } else if (step == NOT) {
                    if (top > 0) {
                        stack[top - 1] = 1 - stack[top - 1];
                    }
                } else if (top > 1) {
                    top--;
                    stack[top - 1] = join(step, stack[top - 1], stack[top]);
                }
            }
            return top > 0 ? stack[top - 1] : 0;
        }

        private static int join(int step, int left, int right) {
            switch (step) {
                case '+': return left + right;
                case '-': return left - right;
                case '*': return left * right;
                case '/': return right == 0 ? 0 : left / right;
                case '<': return left < right ? 1 : 0;
                case '>': return left > right ? 1 : 0;
                case '=': return left == right ? 1 : 0;
                case LEAST: return Math.min(left, right);
                case MOST: return Math.max(left, right);
                case AND: return left & right;
                default: return left | right;
            }
        }
    }

    /** Reads a text, token by token, into a LAW; each reading method answers whether no FAULT was met. */
    private static final class LawReader {
        private static final String KEEPING_WORDS = "free paid lent hired pledge work any";
        private static final String HARM_WORDS = "worn hurt died lost stolen forced all";
        private static final String CLAUSE_WORDS = "answers swears owes lets twice";
        private static final String MIXING_WORDS = "parts last";
        private static final String NAME_WORDS = "fault there use late passed term value days";
        private static final String CHOICE_WORDS = "least most";

        // A sign is a token of the kind of its byte.
        private static final int WORD = 256;
        private static final int DIGITS = 257;
        private static final int END_OF_TEXT = 258;

        int place = NONE;
        private int fault;
        private int[] text = new int[0];
        private int length;
        private Law law = new Law();
        private int kind;
        private int from;
        private int to;
        private int number;
        private int open;

        int readLaw(int[] tape, int n, Law into) {
            text = tape;
            length = Math.min(n, tape.length);
            law = into;
            law.clear();
            fault = 0;
            place = NONE;
            open = 0;
            to = 0;
            nextToken();
            boolean right = true;
            for (int i = 0; right && i <= MOST_CLAUSES && kind != END_OF_TEXT; i++) {
                right = readClause() && take(';');
            }
            return fault;
        }

        private boolean readClause() {
            int keeping = wordOf(KEEPING_WORDS);
            boolean mixes = isWord("mixed");
            if (keeping == NONE && !mixes) {
                return fail(MISPLACED);
            }
            if (law.isFull()) {
                return fail(TOO_MANY);
            }
            nextToken();
            if (mixes) {
                return readMixing();
            }
            int sort = wordOf(CLAUSE_WORDS);
            if (sort == NONE) {
                return fail(MISPLACED);
            }
            law.beginClause(sort, bitsOf(keeping, KEEPINGS));
            nextToken();
            switch (sort) {
                case Law.OWES: return readSum();
                case Law.LETS: return readTerms();
                case Law.TWICE: return true;
                default: return readHarms() && (!takeWord("if") || readEither());
            }
        }

        private boolean readMixing() {
            int way = wordOf(MIXING_WORDS);
            if (way == NONE) {
                return fail(MISPLACED);
            }
            law.beginClause(Law.MIXED, 0);
            law.mixing = way;
            nextToken();
            return true;
        }

        private boolean readHarms() {
            boolean right = readHarm();
            for (int i = 0; right && i < length && kind == ','; i++) {
                nextToken();
                right = readHarm();
            }
            return right;
        }

        private boolean readHarm() {
            int harm = wordOf(HARM_WORDS);
            if (harm == NONE) {
                return fail(MISPLACED);
            }
            law.include(bitsOf(harm, HARMS));
            nextToken();
            return true;
        }

        private boolean readTerms() {
            boolean right = readTerm();
            for (int i = 0; right && i < length && kind == ','; i++) {
                nextToken();
                right = readTerm();
            }
            return right;
        }

        private boolean readTerm() {
            if (!isNumber(1, TERMS - 1)) {
                return false;
            }
            law.include(1 << number);
            nextToken();
            return true;
        }

        private boolean readEither() {
            boolean right = readBoth();
            for (int i = 0; right && i < length && takeWord("or"); i++) {
                right = readBoth();
                law.addStep(Law.OR);
            }
            return right;
        }

        private boolean readBoth() {
            boolean right = readCondition();
            for (int i = 0; right && i < length && takeWord("and"); i++) {
                right = readCondition();
                law.addStep(Law.AND);
            }
            return right;
        }

        private boolean readCondition() {
            if (isWord("not")) {
                return readNot();
            }
            if (kind == '[') {
                return enter() && readEither() && leave(']');
            }
            boolean right = readSum();
            int sign = kind;
            right = right && takeComparison() && readSum();
            law.addStep(sign);
            return right;
        }

        private boolean readNot() {
            if (!enter() || !readCondition()) {
                return false;
            }
            open--;
            law.addStep(Law.NOT);
            return true;
        }

        private boolean takeComparison() {
            return kind == '<' || kind == '>' ? take(kind) : take('=');
        }

        private boolean readSum() {
            boolean right = readProduct();
            for (int i = 0; right && i < length && (kind == '+' || kind == '-'); i++) {
                int sign = kind;
                nextToken();
                right = readProduct();
                law.addStep(sign);
            }
            return right;
        }

        private boolean readProduct() {
            boolean right = readUnit();
            for (int i = 0; right && i < length && (kind == '*' || kind == '/'); i++) {
                int sign = kind;
                nextToken();
                right = readUnit();
                law.addStep(sign);
            }
            return right;
        }

        private boolean readUnit() {
            if (kind == '(') {
                return enter() && readSum() && leave(')');
            }
            if (kind == DIGITS) {
                return readNumber();
            }
            int choice = wordOf(CHOICE_WORDS);
            if (choice != NONE) {
                nextToken();
                return readChoice(choice == 0 ? Law.LEAST : Law.MOST);
            }
            int name = wordOf(NAME_WORDS);
            if (name == NONE) {
                return fail(MISPLACED);
            }
            law.addStep(name);
            nextToken();
            return true;
        }

        private boolean readNumber() {
            if (!isNumber(0, TOP_AMOUNT)) {
                return false;
            }
            law.addStep(Law.NUMBER + number);
            nextToken();
            return true;
        }

        private boolean readChoice(int step) {
            if (kind != '(') {
                return fail(MISPLACED);
            }
            boolean right = enter() && readSum() && take(',') && readSum() && leave(')');
            law.addStep(step);
            return right;
        }

        /** Goes past a (, a [ or a not. */
        private boolean enter() {
            if (open >= MOST_OPEN) {
                return fail(TOO_MANY);
            }
            open++;
            nextToken();
            return true;
        }

        private boolean leave(int sign) {
            if (kind != sign) {
                return fail(MISPLACED);
            }
            open--;
            nextToken();
            return true;
        }

        private boolean take(int sign) {
            if (kind != sign) {
                return fail(MISPLACED);
            }
            nextToken();
            return true;
        }

        private boolean takeWord(String word) {
            if (wordOf(word) != 0) {
                return false;
            }
            nextToken();
            return true;
        }

        private boolean isNumber(int least, int most) {
            if (kind != DIGITS) {
                return fail(MISPLACED);
            }
            return number >= least && number <= most || fail(NO_SUCH_NUMBER);
        }

        private boolean fail(int sort) {
            fault = sort;
            place = from;
            return false;
        }

        private void nextToken() {
            from = to;
            while (from < length && text[from] == ' ') {
                from++;
            }
            to = from;
            if (from >= length) {
                kind = END_OF_TEXT;
            } else if (isLetter(text[from])) {
                kind = WORD;
                while (to < length && isLetter(text[to])) {
                    to++;
                }
            } else if (isDigit(text[from])) {
                kind = DIGITS;
                number = 0;
                while (to < length && isDigit(text[to])) {
                    // However long it is, it stays above all that is allowed, and never wraps.
                    number = Math.min(TOP_AMOUNT + 1, 10 * number + text[to] - '0');
                    to++;
                }
            } else {
                kind = text[from];
                to++;
            }
        }

        private static boolean isLetter(int sign) {
            return sign >= 'a' && sign <= 'z';
        }

        private static boolean isDigit(int sign) {
            return sign >= '0' && sign <= '9';
        }

        private boolean isWord(String word) {
            return wordOf(word) == 0;
        }

        /** Which of the words, parted by single blanks, the token is. */
        private int wordOf(String words) {
            if (kind != WORD) {
                return NONE;
            }
            int which = 0;
            int begin = 0;
            for (int i = 0; i <= words.length(); i++) {
                if (i == words.length() || words.charAt(i) == ' ') {
                    if (isSame(words, begin, i)) {
                        return which;
                    }
                    which++;
                    begin = i + 1;
                }
            }
            return NONE;
        }

        private boolean isSame(String words, int begin, int behind) {
            if (behind - begin != to - from) {
                return false;
            }
            for (int i = begin; i < behind; i++) {
                if (words.charAt(i) != text[from + i - begin]) {
                    return false;
                }
            }
            return true;
        }

        /** One of so many as a bit; what stands behind them is the word for all of them. */
        private static int bitsOf(int which, int many) {
            return which == many ? (1 << many) - 1 : 1 << which;
        }
    }

    private static final class Hand {
        int keeping;
        int day;
        int till;
        int term;
        int leave;
        int purse;
        int judged;
        private int facts;

        Hand() {
            clear();
        }

        void clear() {
            keeping = NONE;
            day = NONE;
            till = NONE;
            term = NONE;
            leave = NONE;
            purse = TOP_AMOUNT;
            judged = 0;
            facts = 0;
        }

        void setTo(Hand other) {
            keeping = other.keeping;
            day = other.day;
            till = other.till;
            term = other.term;
            leave = other.leave;
            purse = other.purse;
            judged = other.judged;
            facts = other.facts;
        }

        int entry(int what) {
            switch (what) {
                case 0: return keeping;
                case 1: return day;
                case 2: return till;
                case 3: return term;
                case 4: return leave;
                default: return purse;
            }
        }

        boolean hasFact(int fact) {
            return (facts >> fact & 1) == 1;
        }

        void tellFact(int fact, boolean is) {
            int bit = 1 << fact;
            facts = is ? facts | bit : facts & ~bit;
        }
    }

    private static final class Question {
        int sort;
        int hand;
        int other;

        void setTo(Question from) {
            sort = from.sort;
            hand = from.hand;
            other = from.other;
        }
    }

    /** What was put together, in the order of puttings. */
    private static final class Goods {
        int puttings;
        private final int[] owners = new int[MOST_PUTTINGS];
        private final int[] many = new int[MOST_PUTTINGS];

        void setTo(Goods other) {
            puttings = other.puttings;
            System.arraycopy(other.owners, 0, owners, 0, MOST_PUTTINGS);
            System.arraycopy(other.many, 0, many, 0, MOST_PUTTINGS);
        }

        boolean add(int owner, int howMany) {
            if (puttings >= MOST_PUTTINGS) {
                return false;
            }
            owners[puttings] = owner;
            many[puttings] = howMany;
            puttings++;
            return true;
        }

        int all() {
            int sum = 0;
            for (int i = 0; i < puttings; i++) {
                sum += many[i];
            }
            return sum;
        }

        int allOf(int owner) {
            return lostLast(owner, all());
        }

        int lostLast(int owner, int lost) {
            int left = lost;
            int sum = 0;
            for (int i = puttings - 1; i >= 0; i--) {
                int taken = Math.min(left, many[i]);
                left -= taken;
                if (owners[i] == owner) {
                    sum += taken;
                }
            }
            return sum;
        }
    }

    /** All that an IMAGE holds. */
    private static final class Chain {
        final Hand[] hands = new Hand[MOST_HANDS];
        int handCount = 1;
        int value = FIRST_VALUE;
        int harm = NONE;
        int harmDay;
        int inForce = NONE;
        final Question[] questions = new Question[MOST_QUESTIONS];
        int questionCount;
        final Goods goods = new Goods();

        Chain() {
            for (int i = 0; i < MOST_HANDS; i++) {
                hands[i] = new Hand();
            }
            for (int i = 0; i < MOST_QUESTIONS; i++) {
                questions[i] = new Question();
            }
        }

        void setTo(Chain other) {
            for (int k = 0; k < other.handCount; k++) {
                hands[k].setTo(other.hands[k]);
            }
            for (int q = 0; q < other.questionCount; q++) {
                questions[q].setTo(other.questions[q]);
            }
            goods.setTo(other.goods);
            handCount = other.handCount;
            value = other.value;
            harm = other.harm;
            harmDay = other.harmDay;
            inForce = other.inForce;
            questionCount = other.questionCount;
        }

        /** With HAND 0, if no PASSING was yet; NONE without a HARM. */
        int latestHolder() {
            if (harm == NONE) {
                return NONE;
            }
            int latest = 0;
            for (int k = 1; k < handCount; k++) {
                if (hands[k].day <= harmDay) {
                    latest = k;
                }
            }
            return latest;
        }

        boolean hasPassed(int k, int holder) {
            return k < holder && hands[k].leave == 0;
        }

        void nameHand(int k, int holder, Law law, int[] names) {
            Hand hand = hands[k];
            for (int fact = 0; fact < SWORE; fact++) {
                names[fact] = hand.hasFact(fact) ? 1 : 0;
            }
            names[LATE] = harmDay > hand.till ? 1 : 0;
            names[PASSED] = hasPassed(k, holder) ? 1 : 0;
            names[TERM] = law.allows(hand.keeping, hand.term) ? hand.term : 0;
            names[VALUE] = value;
            names[DAYS] = harmDay - hand.day;
        }

        int ask(int sort, int hand, int other) {
            if (questionCount >= MOST_QUESTIONS) {
                return -1;
            }
            Question question = questions[questionCount];
            question.sort = sort;
            question.hand = hand;
            question.other = other;
            questionCount++;
            return questionCount - 1;
        }

        void dropQuestion(int gone) {
            questionCount--;
            for (int q = gone; q < questionCount; q++) {
                questions[q].setTo(questions[q + 1]);
            }
        }

        /** As every QUESTION lays down its side in every CASE, what one CASE supposed is gone in the next. */
        void suppose(Chain told, int bits) {
            for (int q = 0; q < questionCount; q++) {
                tell(questions[q], (bits >> q & 1) == 1, told);
            }
        }

        void tell(Question question, boolean is, Chain told) {
            if (question.sort == OTHER_HARM) {
                harm = is ? question.other : told.harm;
            } else if (question.sort == OTHER_DAY) {
                harmDay = is ? question.other : told.harmDay;
            } else if (isWithin(question.hand, MOST_HANDS - 1)) {
                hands[question.hand].tellFact(question.sort, is);
            }
        }
    }

    /** Who owes, pays and bears what, by a CHAIN and a LAW; a row for each, by HANDS. */
    private static final class End {
        final int[] claims = new int[MOST_HANDS];
        final int[] whoms = new int[MOST_HANDS];
        final int[] payments = new int[MOST_HANDS];
        final int[] burdens = new int[MOST_HANDS];
        final boolean[] mustSwear = new boolean[MOST_HANDS];
        private final int[] gains = new int[MOST_HANDS];
        private final int[] names = new int[NAMES];
        private int holder;

        void reckon(Chain chain, Law law) {
            clear();
            holder = chain.latestHolder();
            if (holder == NONE) {
                return;
            }
            for (int k = 1; k <= holder; k++) {
                claimOn(k, chain, law);
            }
            payUp(chain);
            payOwner(chain.value);
            burdens[0] = chain.value - gains[0];
            for (int k = 1; k <= holder; k++) {
                burdens[k] = payments[k] - gains[k];
            }
        }

        private void clear() {
            for (int k = 0; k < MOST_HANDS; k++) {
                claims[k] = 0;
                whoms[k] = NONE;
                payments[k] = 0;
                burdens[k] = 0;
                gains[k] = 0;
                mustSwear[k] = false;
            }
        }

        private void claimOn(int k, Chain chain, Law law) {
            Hand hand = chain.hands[k];
            chain.nameHand(k, holder, law, names);
            boolean answers = law.holdsFor(Law.ANSWERS, hand.keeping, chain.harm, names);
            mustSwear[k] = !answers && !hand.hasFact(SWORE)
                && law.holdsFor(Law.SWEARS, hand.keeping, chain.harm, names);
            claims[k] = answers || mustSwear[k] ? law.owedFor(hand.keeping, names) : 0;
            whoms[k] = chain.hasPassed(k - 1, holder) ? 0 : k - 1;
        }

        private void payUp(Chain chain) {
            for (int k = holder; k >= 1; k--) {
                payments[k] = Math.min(claims[k], chain.hands[k].purse + gains[k]);
                if (whoms[k] > 0) {
                    gains[whoms[k]] += payments[k];
                }
            }
        }

        private void payOwner(int value) {
            for (int k = 1; k <= holder; k++) {
                if (whoms[k] == 0) {
                    payments[k] = Math.min(payments[k], value - gains[0]);
                    gains[0] += payments[k];
                }
            }
        }

        /** One way up is enough, since every HAND answers to one with a lesser number. */
        int titleFor(int value) {
            int with = 0;
            for (int k = 1; k <= holder; k++) {
                boolean whole = claims[k] > 0 && claims[k] >= value && payments[k] == claims[k];
                if (whole && whoms[k] == with) {
                    with = k;
                }
            }
            return with;
        }
    }
}
