import java.util.ArrayDeque;
import java.util.ArrayList;
import java.util.Deque;
import java.util.HashMap;
import java.util.List;
import java.util.Map;
import java.util.NoSuchElementException;
import java.util.function.Predicate;
import java.util.function.ToIntFunction;

/** The document a second time, word by word and without care for room or speed, to hold the class against. */
final class Plain {
    private static final List<String> KEEPINGS = List.of("free", "paid", "lent", "hired", "pledge", "work");
    private static final List<String> HARMS = List.of("worn", "hurt", "died", "lost", "stolen", "forced");
    private static final List<String> NAMES =
        List.of("fault", "there", "use", "late", "passed", "term", "value", "days");

    record Clause(String verb, List<Integer> keepings, List<Integer> things, Predicate<Map<String, Integer>> when,
                  ToIntFunction<Map<String, Integer>> owed, String mixing) {
    }

    record Passing(int keeping, int day, int till, int term, boolean leave) {
    }

    record Question(int sort, int hand, int other) {
    }

    record Putting(int owner, int many) {
    }

    static final class Chain {
        List<Passing> passings = new ArrayList<>();
        Map<Integer, Integer> purses = new HashMap<>();
        Map<Integer, Integer> judged = new HashMap<>();
        Map<String, Boolean> facts = new HashMap<>();
        List<Question> questions = new ArrayList<>();
        List<Putting> goods = new ArrayList<>();
        int value = 100;
        int harm = -1;
        int day = 0;
        int force = -1;

        Chain copy() {
            Chain c = new Chain();
            c.passings.addAll(passings);
            c.purses.putAll(purses);
            c.judged.putAll(judged);
            c.facts.putAll(facts);
            c.questions.addAll(questions);
            c.goods.addAll(goods);
            c.value = value;
            c.harm = harm;
            c.day = day;
            c.force = force;
            return c;
        }
    }

    private String tape = "";
    private final List<List<Clause>> laws = new ArrayList<>();
    private int place = -1;
    private Chain chain = new Chain();
    private final Deque<Chain> images = new ArrayDeque<>();

    // ---- reading

    static final class Fault extends RuntimeException {
        private static final long serialVersionUID = 1L;

        final int sort;
        final int at;

        Fault(int sort, int at) {
            this.sort = sort;
            this.at = at;
        }
    }

    record Token(String text, int at) {
        boolean isDigits() {
            return text.matches("[0-9]+");
        }

        boolean isIn(List<String> words) {
            return words.contains(text);
        }
    }

    static final class Reading {
        final List<Token> tokens = new ArrayList<>();
        int next = 0;
        int open = 0;

        Reading(String text) {
            var m = java.util.regex.Pattern.compile("[a-z]+|[0-9]+|[^ ]", java.util.regex.Pattern.DOTALL).matcher(text);
            while (m.find()) {
                tokens.add(new Token(m.group(), m.start()));
            }
            tokens.add(new Token("", text.length()));
        }

        Token peek() {
            return tokens.get(next);
        }

        boolean sees(String text) {
            return peek().text.equals(text);
        }

        Token must(boolean fits) {
            if (!fits) {
                throw new Fault(1, peek().at);
            }
            return tokens.get(next++);
        }

        Token must(String text) {
            return must(sees(text));
        }

        int number(int least, int most) {
            Token t = must(peek().isDigits());
            String digits = t.text.replaceFirst("^0+(?=.)", "");
            if (digits.length() > 4 || Integer.parseInt(digits) < least || Integer.parseInt(digits) > most) {
                throw new Fault(2, t.at);
            }
            return Integer.parseInt(digits);
        }

        void opened(String text) {
            Token t = must(text);
            if (++open == 7) {
                throw new Fault(3, t.at);
            }
        }

        List<Clause> law() {
            List<Clause> clauses = new ArrayList<>();
            while (!sees("")) {
                Token first = peek();
                Clause c = null;
                must(first.isIn(KEEPINGS) || sees("any") || sees("mixed"));
                if (clauses.size() == 24) {
                    throw new Fault(3, first.at);
                }
                if (first.text.equals("mixed")) {
                    Token way = must(sees("parts") || sees("last"));
                    c = new Clause("mixed", List.of(), List.of(), null, null, way.text);
                } else {
                    c = clause(some(first.text, "any", KEEPINGS));
                }
                must(";");
                clauses.add(c);
            }
            return clauses;
        }

        static List<Integer> some(String word, String all, List<String> words) {
            List<Integer> out = new ArrayList<>();
            for (int i = 0; i < words.size(); i++) {
                if (word.equals(all) || words.get(i).equals(word)) {
                    out.add(i);
                }
            }
            return out;
        }

        Clause clause(List<Integer> keepings) {
            Token verb = must(peek().isIn(List.of("answers", "swears", "owes", "lets", "twice")));
            List<Integer> things = new ArrayList<>();
            switch (verb.text) {
                case "owes":
                    return new Clause("owes", keepings, things, null, sum(), null);
                case "twice":
                    return new Clause("twice", keepings, things, null, null, null);
                case "lets":
                    things.add(number(1, 3));
                    while (sees(",")) {
                        must(",");
                        things.add(number(1, 3));
                    }
                    return new Clause("lets", keepings, things, null, null, null);
                default:
                    things.addAll(harms());
                    while (sees(",")) {
                        must(",");
                        things.addAll(harms());
                    }
                    Predicate<Map<String, Integer>> when = n -> true;
                    if (sees("if")) {
                        must("if");
                        when = either();
                    }
                    return new Clause(verb.text, keepings, things, when, null, null);
            }
        }

        List<Integer> harms() {
            return some(must(peek().isIn(HARMS) || sees("all")).text, "all", HARMS);
        }

        Predicate<Map<String, Integer>> either() {
            Predicate<Map<String, Integer>> all = both();
            while (sees("or")) {
                must("or");
                all = all.or(both());
            }
            return all;
        }

        Predicate<Map<String, Integer>> both() {
            Predicate<Map<String, Integer>> all = basic();
            while (sees("and")) {
                must("and");
                all = all.and(basic());
            }
            return all;
        }

        Predicate<Map<String, Integer>> basic() {
            if (sees("not")) {
                opened("not");
                Predicate<Map<String, Integer>> b = basic();
                open--;
                return b.negate();
            }
            if (sees("[")) {
                opened("[");
                Predicate<Map<String, Integer>> c = either();
                must("]");
                open--;
                return c;
            }
            ToIntFunction<Map<String, Integer>> left = sum();
            String sign = must(sees("<") || sees(">") || sees("=")).text;
            ToIntFunction<Map<String, Integer>> right = sum();
            return n -> {
                int order = Integer.compare(left.applyAsInt(n), right.applyAsInt(n));
                return sign.equals("<") ? order < 0 : sign.equals(">") ? order > 0 : order == 0;
            };
        }

        ToIntFunction<Map<String, Integer>> sum() {
            ToIntFunction<Map<String, Integer>> all = product();
            while (sees("+") || sees("-")) {
                boolean plus = must(true).text.equals("+");
                ToIntFunction<Map<String, Integer>> left = all;
                ToIntFunction<Map<String, Integer>> right = product();
                all = n -> (int) (left.applyAsInt(n) + (plus ? 1L : -1L) * right.applyAsInt(n));
            }
            return all;
        }

        ToIntFunction<Map<String, Integer>> product() {
            ToIntFunction<Map<String, Integer>> all = unit();
            while (sees("*") || sees("/")) {
                boolean times = must(true).text.equals("*");
                ToIntFunction<Map<String, Integer>> left = all;
                ToIntFunction<Map<String, Integer>> right = unit();
                all = n -> {
                    long a = left.applyAsInt(n);
                    long b = right.applyAsInt(n);
                    return (int) (times ? a * b : b == 0 ? 0 : a / b);
                };
            }
            return all;
        }

        ToIntFunction<Map<String, Integer>> unit() {
            if (sees("(")) {
                opened("(");
                ToIntFunction<Map<String, Integer>> e = sum();
                must(")");
                open--;
                return e;
            }
            if (sees("least") || sees("most")) {
                boolean least = must(true).text.equals("least");
                opened("(");
                ToIntFunction<Map<String, Integer>> a = sum();
                must(",");
                ToIntFunction<Map<String, Integer>> b = sum();
                must(")");
                open--;
                return n -> least ? Math.min(a.applyAsInt(n), b.applyAsInt(n))
                    : Math.max(a.applyAsInt(n), b.applyAsInt(n));
            }
            if (peek().isDigits()) {
                int number = number(0, 9999);
                return n -> number;
            }
            String name = must(peek().isIn(NAMES)).text;
            return n -> n.get(name);
        }
    }

    // ---- laws

    private static boolean says(List<Clause> law, String verb, int keeping, int harm, Map<String, Integer> names) {
        return law.stream().anyMatch(c -> c.verb.equals(verb) && c.keepings.contains(keeping)
            && c.things.contains(harm) && c.when.test(names));
    }

    private static int owed(List<Clause> law, int keeping, Map<String, Integer> names) {
        int owed = names.get("value");
        for (Clause c : law) {
            if (c.verb.equals("owes") && c.keepings.contains(keeping)) {
                owed = c.owed.applyAsInt(names);
                owed = owed < 0 ? 0 : owed > 9999 ? 9999 : owed;
            }
        }
        return owed;
    }

    private static int claim(List<Clause> law, int keeping, int harm, Map<String, Integer> names, boolean sworn) {
        boolean liable = says(law, "answers", keeping, harm, names)
            || says(law, "swears", keeping, harm, names) && !sworn;
        return liable ? owed(law, keeping, names) : 0;
    }

    private static boolean letsTerm(List<Clause> law, int keeping, int term) {
        return law.stream().anyMatch(c -> c.verb.equals("lets") && c.keepings.contains(keeping)
            && c.things.contains(term));
    }

    private static boolean hasTwice(List<Clause> law, int keeping) {
        return law.stream().anyMatch(c -> c.verb.equals("twice") && c.keepings.contains(keeping));
    }

    private List<Clause> inForce(Chain c) {
        return c.force < 0 ? List.of() : laws.get(c.force);
    }

    private static Map<String, Integer> caseNames(int bits, int term, int value, int days) {
        Map<String, Integer> names = new HashMap<>();
        for (int i = 0; i < 5; i++) {
            names.put(NAMES.get(i), bits >> i & 1);
        }
        names.put("term", term);
        names.put("value", value);
        names.put("days", days);
        return names;
    }

    // ---- a chain by a law

    private static boolean fact(Chain c, int hand, int fact) {
        return c.facts.getOrDefault(hand + " " + fact, false);
    }

    private static int holder(Chain c) {
        if (c.harm < 0) {
            return -1;
        }
        int k = 0;
        while (k < c.passings.size() && c.passings.get(k).day <= c.day) {
            k++;
        }
        return k;
    }

    private static boolean passed(Chain c, int k) {
        return k != holder(c) && !c.passings.get(k - 1).leave;
    }

    private static Map<String, Integer> names(Chain c, List<Clause> law, int k) {
        Passing p = c.passings.get(k - 1);
        Map<String, Integer> names = new HashMap<>();
        names.put("fault", fact(c, k, 0) ? 1 : 0);
        names.put("there", fact(c, k, 1) ? 1 : 0);
        names.put("use", fact(c, k, 2) ? 1 : 0);
        names.put("late", c.day > p.till ? 1 : 0);
        names.put("passed", passed(c, k) ? 1 : 0);
        names.put("term", p.term > 0 && letsTerm(law, p.keeping, p.term) ? p.term : 0);
        names.put("value", c.value);
        names.put("days", c.day - p.day);
        return names;
    }

    private static boolean isOut(Chain c, int k) {
        return k < 1 || k > holder(c);
    }

    private static int claimOn(Chain c, List<Clause> law, int k) {
        return isOut(c, k) ? 0
            : claim(law, c.passings.get(k - 1).keeping, c.harm, names(c, law, k), fact(c, k, 3));
    }

    private static int whomOf(Chain c, int k) {
        return isOut(c, k) ? -1 : k == 1 || passed(c, k - 1) ? 0 : k - 1;
    }

    private static int firstPay(Chain c, List<Clause> law, int k) {
        int gets = k < holder(c) && whomOf(c, k + 1) == k ? firstPay(c, law, k + 1) : 0;
        return Math.min(claimOn(c, law, k), c.purses.getOrDefault(k, 9999) + gets);
    }

    private static int[] pays(Chain c, List<Clause> law) {
        int[] pays = new int[13];
        int lacks = c.value;
        for (int k = 1; k <= holder(c); k++) {
            pays[k] = firstPay(c, law, k);
            if (whomOf(c, k) == 0) {
                pays[k] = Math.min(pays[k], lacks);
                lacks -= pays[k];
            }
        }
        return pays;
    }

    private static List<Integer> bears(Chain c, List<Clause> law) {
        int[] pays = pays(c, law);
        List<Integer> out = new ArrayList<>();
        for (int k = 0; k <= c.passings.size(); k++) {
            int gets = 0;
            for (int j = 1; j <= holder(c); j++) {
                gets += whomOf(c, j) == k ? pays[j] : 0;
            }
            out.add(c.harm < 0 || k > holder(c) ? 0 : k == 0 ? c.value - gets : pays[k] - gets);
        }
        return out;
    }

    private Chain inCaseOf(int bits) {
        Chain c = chain.copy();
        for (int q = 0; q < chain.questions.size(); q++) {
            supposed(c, chain.questions.get(q), (bits >> q & 1) == 1);
        }
        return c;
    }

    private void supposed(Chain c, Question q, boolean is) {
        if (q.sort == 4) {
            c.harm = is ? q.other : chain.harm;
        } else if (q.sort == 5) {
            c.day = is ? q.other : chain.day;
        } else {
            c.facts.put(q.hand + " " + q.sort, is);
        }
    }

    private List<List<Integer>> allCases() {
        List<List<Integer>> all = new ArrayList<>();
        for (int bits = 0; bits < 1 << chain.questions.size(); bits++) {
            Chain c = inCaseOf(bits);
            all.add(bears(c, inForce(c)));
        }
        return all;
    }

    // ---- the face

    private static void need(boolean holds) {
        if (!holds) {
            throw new IllegalArgumentException();
        }
    }

    private static boolean in(int number, int least, int most) {
        return least <= number && number <= most;
    }

    private void needHand(int hand) {
        if (!in(hand, 0, chain.passings.size())) {
            throw new NoSuchElementException();
        }
    }

    private void needLaw(int law) {
        need(in(law, 0, laws.size() - 1));
    }

    int feed(int a, int b, int c, int d, int e) {
        if (tape.length() + 20 > 500) {
            return -1;
        }
        for (int number : new int[] {a, b, c, d, e}) {
            for (byte one : java.nio.ByteBuffer.allocate(4).putInt(number).array()) {
                tape += (char) (one & 0xff);
            }
        }
        return tape.length();
    }

    int law(int n) {
        need(in(n, 0, tape.length()));
        String text = tape.substring(0, n);
        tape = "";
        place = -1;
        if (laws.size() == 4) {
            return -1;
        }
        try {
            laws.add(new Reading(text).law());
            return laws.size() - 1;
        } catch (Fault f) {
            place = f.at;
            return f.sort - 10;
        }
    }

    int fault() {
        return place;
    }

    int force(int law) {
        need(in(law, -1, laws.size() - 1));
        int before = chain.force;
        chain.force = law;
        return before;
    }

    int words(int law, int of, int term, int value, int days, int what) {
        needLaw(law);
        need(in(of, 0, 1151) && in(term, 0, 3) && in(value, 0, 9999) && in(days, 0, 9999) && in(what, 0, 2));
        Map<String, Integer> names = caseNames(of % 32, term, value, days);
        int keeping = of / 192;
        if (what == 2) {
            return owed(laws.get(law), keeping, names);
        }
        return says(laws.get(law), what == 0 ? "answers" : "swears", keeping, of / 32 - 6 * keeping, names) ? 1 : 0;
    }

    boolean lets(int law, int keeping, int term) {
        needLaw(law);
        need(in(keeping, 0, 5) && in(term, 0, 3));
        return term == 0 ? hasTwice(laws.get(law), keeping) : letsTerm(laws.get(law), keeping, term);
    }

    int pass(int keeping, int day, int till, int term, boolean leave) {
        need(in(keeping, 0, 5) && in(day, 0, 999) && in(till, 0, 999) && in(term, 0, 3));
        List<Passing> all = chain.passings;
        if (all.size() == 12) {
            return -1;
        }
        if (!all.isEmpty() && day < all.get(all.size() - 1).day) {
            return -2;
        }
        all.add(new Passing(keeping, day, till, term, leave));
        return all.size();
    }

    int hand(int hand, int what) {
        needHand(hand);
        need(in(what, 0, 5));
        if (what == 5) {
            return chain.purses.getOrDefault(hand, 9999);
        }
        if (hand == 0) {
            return -1;
        }
        Passing p = chain.passings.get(hand - 1);
        return new int[] {p.keeping, p.day, p.till, p.term, p.leave ? 1 : 0}[what];
    }

    int value(int v) {
        need(in(v, 0, 9999));
        int before = chain.value;
        chain.value = v;
        return before;
    }

    int purse(int hand, int v) {
        needHand(hand);
        need(in(v, 0, 9999));
        Integer before = chain.purses.put(hand, v);
        return before == null ? 9999 : before;
    }

    boolean fact(int hand, int fact, boolean is) {
        needHand(hand);
        need(in(fact, 0, 3));
        Boolean before = chain.facts.put(hand + " " + fact, is);
        return before != null && before;
    }

    int harm(int harm, int day) {
        need(in(harm, -1, 5) && in(day, 0, 999));
        int before = chain.harm;
        chain.harm = harm;
        chain.day = day;
        return before;
    }

    int holder() {
        return holder(chain);
    }

    int name(int hand, int what) {
        needHand(hand);
        need(in(what, 0, 7));
        return isOut(chain, hand) ? -1 : names(chain, inForce(chain), hand).get(NAMES.get(what));
    }

    int claim(int hand) {
        needHand(hand);
        return claimOn(chain, inForce(chain), hand);
    }

    int whom(int hand) {
        needHand(hand);
        return whomOf(chain, hand);
    }

    int pays(int hand) {
        needHand(hand);
        return pays(chain, inForce(chain))[hand];
    }

    int bears(int hand) {
        needHand(hand);
        return bears(chain, inForce(chain)).get(hand);
    }

    private boolean alone(int hand) {
        if (isOut(chain, hand)) {
            return false;
        }
        List<Clause> law = inForce(chain);
        int keeping = chain.passings.get(hand - 1).keeping;
        Map<String, Integer> names = names(chain, law, hand);
        return says(law, "swears", keeping, chain.harm, names) && !says(law, "answers", keeping, chain.harm, names);
    }

    boolean must(int hand) {
        needHand(hand);
        return alone(hand) && !fact(chain, hand, 3);
    }

    int frees(int hand) {
        needHand(hand);
        Chain c = chain.copy();
        c.facts.put(hand + " 3", true);
        return bears(hand) - bears(c, inForce(c)).get(hand);
    }

    int question(int sort, int hand, int other) {
        if (in(sort, 0, 3)) {
            needHand(hand);
        }
        need(in(sort, 0, 5));
        need(sort != 4 || in(other, 0, 5));
        need(sort != 5 || in(other, 0, 999));
        if (chain.questions.size() == 8) {
            return -1;
        }
        chain.questions.add(new Question(sort, hand, other));
        return chain.questions.size() - 1;
    }

    int inCase(int bits, int hand) {
        needHand(hand);
        need(in(bits, 0, (1 << chain.questions.size()) - 1));
        return allCases().get(bits).get(hand);
    }

    int sure(int hand) {
        int some = cases(hand);
        return some == 1 << chain.questions.size() ? 2 : some > 0 ? 1 : 0;
    }

    int cases(int hand) {
        needHand(hand);
        return (int) allCases().stream().filter(c -> c.get(hand) > 0).count();
    }

    int hangs(int hand) {
        needHand(hand);
        List<List<Integer>> all = allCases();
        for (int q = 0; q < chain.questions.size(); q++) {
            boolean justIn = true;
            boolean justOut = true;
            for (int bits = 0; bits < all.size(); bits++) {
                boolean bears = all.get(bits).get(hand) > 0;
                boolean is = (bits >> q & 1) == 1;
                justIn &= bears == is;
                justOut &= bears != is;
            }
            if (justIn || justOut) {
                return q;
            }
        }
        return -1;
    }

    int least() {
        List<List<Integer>> all = allCases();
        int best = -1;
        for (int set = 0; set < all.size(); set++) {
            boolean better = best < 0 || Integer.bitCount(set) < Integer.bitCount(best);
            if (better && settles(set, all)) {
                best = set;
            }
        }
        return best;
    }

    private static boolean settles(int set, List<List<Integer>> all) {
        Map<Integer, List<Integer>> seen = new HashMap<>();
        for (int bits = 0; bits < all.size(); bits++) {
            List<Integer> before = seen.putIfAbsent(bits & set, all.get(bits));
            if (before != null && !before.equals(all.get(bits))) {
                return false;
            }
        }
        return true;
    }

    int find(int question, boolean is) {
        if (!in(question, 0, chain.questions.size() - 1)) {
            throw new NoSuchElementException();
        }
        Question q = chain.questions.remove(question);
        supposed(chain, q, is);
        return q.sort;
    }

    int title() {
        List<Clause> law = inForce(chain);
        int[] pays = pays(chain, law);
        int with = 0;
        boolean goes = true;
        while (goes) {
            goes = false;
            for (int k = 1; k <= holder(chain) && !goes; k++) {
                int claim = claimOn(chain, law, k);
                if (whomOf(chain, k) == with && pays[k] == claim && claim >= chain.value && claim > 0) {
                    with = k;
                    goes = true;
                }
            }
        }
        return with;
    }

    int found(int hand, int grown) {
        needHand(hand);
        need(in(grown, 0, 9999));
        if (title() != hand) {
            return 0;
        }
        boolean twice = hand > 0 && hasTwice(inForce(chain), chain.passings.get(hand - 1).keeping)
            && alone(hand) && !fact(chain, hand, 3);
        return twice ? 2 * grown : grown;
    }

    private int all() {
        return chain.goods.stream().mapToInt(Putting::many).sum();
    }

    int put(int owner, int many) {
        need(in(owner, 0, 5) && in(many, 0, 999));
        if (chain.goods.size() == 20) {
            return -1;
        }
        chain.goods.add(new Putting(owner, many));
        return all();
    }

    int share(int owner, int lost) {
        need(in(owner, 0, 5) && in(lost, 0, all()));
        String way = "";
        for (Clause c : inForce(chain)) {
            way = c.verb.equals("mixed") ? c.mixing : way;
        }
        if (way.equals("parts")) {
            return lost * chain.goods.stream().filter(p -> p.owner == owner).mapToInt(Putting::many).sum();
        }
        int out = 0;
        int left = lost;
        for (int i = chain.goods.size() - 1; i >= 0 && way.equals("last"); i--) {
            for (int j = 0; j < chain.goods.get(i).many && left > 0; j++) {
                left--;
                out += chain.goods.get(i).owner == owner ? all() : 0;
            }
        }
        return out;
    }

    int judge(int hand, int v) {
        needHand(hand);
        need(in(v, 0, 9999));
        Integer before = chain.judged.put(hand, v);
        return before == null ? 0 : before;
    }

    int wrong() {
        for (int k = 1; k <= chain.passings.size(); k++) {
            if (chain.judged.getOrDefault(k, 0) != claimOn(chain, inForce(chain), k)) {
                return k;
            }
        }
        return -1;
    }

    int parting(int law, int other) {
        needLaw(law);
        needLaw(other);
        for (int keeping = 0; keeping < 6; keeping++) {
            for (int harm = 0; harm < 6; harm++) {
                for (int bits = 0; bits < 32; bits++) {
                    Map<String, Integer> names = caseNames(bits, 0, 100, 10);
                    if (claim(laws.get(law), keeping, harm, names, false)
                        != claim(laws.get(other), keeping, harm, names, false)) {
                        return 32 * (6 * keeping + harm) + bits;
                    }
                }
            }
        }
        return -1;
    }

    int beside(int law, int hand) {
        needHand(hand);
        needLaw(law);
        return bears(chain, laws.get(law)).get(hand);
    }

    int image() {
        if (images.size() == 3) {
            return -1;
        }
        images.push(chain.copy());
        return images.size();
    }

    int restore() {
        if (images.isEmpty()) {
            return -1;
        }
        chain = images.pop();
        return images.size();
    }

    int count(int what) {
        if (!in(what, 0, 7)) {
            return -1;
        }
        return new int[] {laws.size(), chain.passings.size() + 1, chain.questions.size(), all(), chain.goods.size(),
            images.size(), tape.length(), chain.value}[what];
    }
}
