import java.util.NoSuchElementException;

/**
 * Promises 1 to 39, one behind the other on the same object ("An object is used for at most 512 calls"): many long runs
 * of mixed calls, on the class and on Plain at once; every answer must be alike.
 */
public final class BesidePlainTest {
    private static final String[] WORDS = {"free", "paid", "lent", "hired", "pledge", "work", "any", "worn", "hurt",
        "died", "lost", "stolen", "forced", "all", "answers", "swears", "owes", "lets", "twice", "mixed", "parts",
        "last", "if", "fault", "there", "use", "late", "passed", "term", "value", "days", "least", "most", "or", "and",
        "not", "[", "]", "(", ")", ",", ";", "+", "-", "*", "/", "<", ">", "=", "0", "1", "3", "4", "9999", "10000",
        "00012", "42949672961", "x", "A", "\u00e9", "\n"};
    private static final String[] KEEPINGS = {"free", "paid", "lent", "hired", "pledge", "work", "any", "any"};
    private static final String[] HARMS = {"worn", "hurt", "died", "lost", "stolen", "forced", "all", "all"};
    private static final String[] NAMES = {"fault", "there", "use", "late", "passed", "term", "value", "days"};

    // What an object answers behind so many calls is free.
    private static final int MOST_CALLS = 512;
    private static final int CALLS_OF_THE_DEAREST_STEP = 30;

    private long seed;
    private int calls;
    private KeepingHands x;
    private Plain plain;

    private BesidePlainTest(long seed) {
        this.seed = seed * 7919 + 12345;
    }

    public static void main(String[] args) {
        int runs = args.length > 0 ? Integer.parseInt(args[0]) : 600;
        for (int run = 0; run < runs; run++) {
            new BesidePlainTest(run).run(run);
        }
        Check.end();
    }

    private int upTo(int most) {
        seed = seed * 6364136223846793005L + 1442695040888963407L;
        return (int) ((seed >>> 33) % (most + 1));
    }

    /** Mostly one that is allowed, now and then one at or over the edges. */
    private int number(int most) {
        switch (upTo(15)) {
            case 0: return 0;
            case 1: return most;
            case 2: return upTo(3) == 0 ? -1 : 1;
            case 3: return upTo(3) == 0 ? most + 1 : most / 2;
            case 4: return upTo(9) == 0 ? (upTo(1) == 0 ? Integer.MIN_VALUE : Integer.MAX_VALUE) : upTo(most);
            default: return upTo(most);
        }
    }

    private String one(String[] words) {
        return words[upTo(words.length - 1)];
    }

    private String blank() {
        return upTo(4) == 0 ? " " : "";
    }

    private String sum(int deep) {
        String out = product(deep);
        while (upTo(3) == 0) {
            out += blank() + (upTo(1) == 0 ? "+" : "-") + product(deep);
        }
        return out;
    }

    private String product(int deep) {
        String out = unit(deep);
        while (upTo(4) == 0) {
            out += blank() + (upTo(1) == 0 ? "*" : "/") + unit(deep);
        }
        return out;
    }

    private String unit(int deep) {
        switch (upTo(deep > 0 ? 8 : 6)) {
            case 0: case 1: return " " + upTo(20);
            case 2: return " " + upTo(9999);
            case 7: return blank() + "(" + sum(deep - 1) + blank() + ")";
            case 8: return blank() + (upTo(1) == 0 ? "least" : "most") + blank() + "(" + sum(deep - 1) + ","
                + sum(deep - 1) + ")";
            default: return " " + one(NAMES);
        }
    }

    private String condition(int deep) {
        String out = basic(deep);
        while (upTo(3) == 0) {
            out += (upTo(1) == 0 ? " and" : " or") + basic(deep);
        }
        return out;
    }

    private String basic(int deep) {
        int which = upTo(deep > 0 ? 6 : 4);
        if (which == 5) {
            return " not" + basic(deep - 1);
        }
        if (which == 6) {
            return blank() + "[" + condition(deep - 1) + "]";
        }
        if (which < 3) {
            return " " + one(NAMES).trim() + blank() + (upTo(1) == 0 ? "=" : upTo(1) == 0 ? "<" : ">") + upTo(1);
        }
        return sum(deep) + blank() + (upTo(1) == 0 ? "=" : upTo(1) == 0 ? "<" : ">") + sum(deep);
    }

    private String harms() {
        String out = " " + one(HARMS);
        while (upTo(2) == 0) {
            out += blank() + "," + blank() + one(HARMS);
        }
        return out;
    }

    private String clause() {
        String keeping = one(KEEPINGS);
        switch (upTo(9)) {
            case 0: return keeping + " owes" + sum(3);
            case 1: return keeping + " lets " + (1 + upTo(2)) + (upTo(1) == 0 ? "" : ", " + (1 + upTo(2)));
            case 2: return keeping + " twice";
            case 3: return "mixed " + (upTo(1) == 0 ? "parts" : "last");
            case 4: case 5: case 6: return keeping + " swears" + harms() + (upTo(1) == 0 ? "" : " if" + condition(3));
            default: return keeping + " answers" + harms() + (upTo(1) == 0 ? "" : " if" + condition(3));
        }
    }

    private String text() {
        int many = upTo(9) == 0 ? 27 : upTo(8);
        StringBuilder out = new StringBuilder();
        for (int i = 0; i < many; i++) {
            out.append(blank()).append(many > 20 ? "any twice" : clause()).append(blank()).append(';');
        }
        out.append(blank());
        int spoils = upTo(3) == 0 ? 1 + upTo(1) : 0;
        for (int i = 0; i < spoils; i++) {
            int at = upTo(out.length());
            switch (upTo(4)) {
                case 0: out.insert(at, " " + one(WORDS) + " "); break;
                case 1: out.insert(at, one(WORDS)); break;
                case 2: out.setLength(at); break;
                case 3: out.insert(at, one(new String[] {"(((((", "[[[[[[", " not not not not not", "(", "["})); break;
                default: out.delete(at, Math.min(out.length(), at + 1 + upTo(5)));
            }
        }
        return out.toString();
    }

    private void newLaw(int run) {
        String text = text();
        if (text.length() > 500) {
            text = text.substring(0, 500);
        }
        for (int i = 0; i < text.length(); i += 20) {
            int[] five = new int[5];
            for (int j = 0; j < 20; j++) {
                five[j / 4] = five[j / 4] << 8 | (i + j < text.length() ? text.charAt(i + j) & 255 : 0);
            }
            same(run, "feed", () -> x.feed(five[0], five[1], five[2], five[3], five[4]),
                () -> plain.feed(five[0], five[1], five[2], five[3], five[4]));
        }
        int n = text.length();
        same(run, "law of " + text, () -> x.law(n), () -> plain.law(n));
        same(run, "fault of " + text, x::fault, plain::fault);
    }

    private void run(int run) {
        x = new KeepingHands();
        plain = new Plain();
        for (int i = 0; i < 1 + upTo(3); i++) {
            newLaw(run);
        }
        int force = number(3);
        same(run, "force", () -> x.force(force), () -> plain.force(force));
        int chains = upTo(11);
        int day = 0;
        for (int i = 0; i < chains; i++) {
            day += upTo(20);
            int today = day;
            int keeping = upTo(5);
            int till = today + upTo(60);
            int term = upTo(3);
            boolean leave = upTo(2) > 0;
            same(run, "pass", () -> x.pass(keeping, today, till, term, leave),
                () -> plain.pass(keeping, today, till, term, leave));
        }
        int harm = upTo(5);
        int harmDay = upTo(day + 30);
        same(run, "harm", () -> x.harm(harm, harmDay), () -> plain.harm(harm, harmDay));
        for (int i = 0; i < 300 && calls <= MOST_CALLS - CALLS_OF_THE_DEAREST_STEP; i++) {
            step(run, i);
        }
        if (calls > MOST_CALLS) {
            throw new IllegalStateException("run " + run + " made " + calls + " calls");
        }
    }

    private void step(int run, int i) {
        int hands = plain.count(1) - 1;
        int hand = number(hands);
        int law = number(Math.max(0, plain.count(0) - 1));
        boolean is = upTo(1) == 0;
        String at = " at " + i + " of hand " + hand;
        switch (upTo(44)) {
            case 0: if (upTo(3) == 0) { newLaw(run); } break;
            case 1: int forced = upTo(5) == 0 ? -1 : law;
                same(run, "force" + at, () -> x.force(forced), () -> plain.force(forced)); break;
            case 2: case 3: case 4: words(run, law); break;
            case 5: int k = number(5); int t = number(3);
                same(run, "lets" + at, () -> x.lets(law, k, t) ? 1 : 0, () -> plain.lets(law, k, t) ? 1 : 0); break;
            case 6: pass(run); break;
            case 7: int w = number(5); same(run, "hand" + at, () -> x.hand(hand, w), () -> plain.hand(hand, w)); break;
            case 8: int v = upTo(1) == 0 ? number(9999) : number(300);
                same(run, "value" + at, () -> x.value(v), () -> plain.value(v)); break;
            case 9: int p = upTo(1) == 0 ? number(9999) : number(100);
                same(run, "purse" + at, () -> x.purse(hand, p), () -> plain.purse(hand, p)); break;
            case 10: case 11: case 12: int f = number(3);
                same(run, "fact" + at, () -> x.fact(hand, f, is) ? 1 : 0, () -> plain.fact(hand, f, is) ? 1 : 0); break;
            case 13: int h = upTo(9) == 0 ? -1 : number(5); int d = upTo(1) == 0 ? number(999) : number(200);
                same(run, "harm" + at, () -> x.harm(h, d), () -> plain.harm(h, d)); break;
            case 14: same(run, "holder" + at, x::holder, plain::holder); break;
            case 15: case 16: int n = number(7);
                same(run, "name" + at, () -> x.name(hand, n), () -> plain.name(hand, n)); break;
            case 17: case 18: same(run, "claim" + at, () -> x.claim(hand), () -> plain.claim(hand)); break;
            case 19: same(run, "whom" + at, () -> x.whom(hand), () -> plain.whom(hand)); break;
            case 20: same(run, "pays" + at, () -> x.pays(hand), () -> plain.pays(hand)); break;
            case 21: same(run, "bears" + at, () -> x.bears(hand), () -> plain.bears(hand)); break;
            case 22: same(run, "must" + at, () -> x.must(hand) ? 1 : 0, () -> plain.must(hand) ? 1 : 0); break;
            case 23: same(run, "frees" + at, () -> x.frees(hand), () -> plain.frees(hand)); break;
            case 24: case 25: question(run, hand); break;
            case 26: case 27: int bits = number((1 << plain.count(2)) - 1);
                same(run, "inCase" + at, () -> x.inCase(bits, hand), () -> plain.inCase(bits, hand)); break;
            case 28: same(run, "sure" + at, () -> x.sure(hand), () -> plain.sure(hand)); break;
            case 29: same(run, "cases" + at, () -> x.cases(hand), () -> plain.cases(hand)); break;
            case 30: same(run, "hangs" + at, () -> x.hangs(hand), () -> plain.hangs(hand)); break;
            case 31: same(run, "least" + at, x::least, plain::least); break;
            case 32: int q = number(plain.count(2));
                same(run, "find" + at, () -> x.find(q, is), () -> plain.find(q, is)); break;
            case 33: same(run, "title" + at, x::title, plain::title); break;
            case 34: int g = number(9999);
                same(run, "found" + at, () -> x.found(hand, g), () -> plain.found(hand, g)); break;
            case 35: int o = number(5); int m = upTo(1) == 0 ? number(999) : number(20);
                same(run, "put" + at, () -> x.put(o, m), () -> plain.put(o, m)); break;
            case 36: int who = number(5); int lost = number(plain.count(3));
                same(run, "share" + at, () -> x.share(who, lost), () -> plain.share(who, lost)); break;
            case 37: int j = upTo(1) == 0 ? number(9999) : Math.max(0, claimOf(hand));
                same(run, "judge" + at, () -> x.judge(hand, j), () -> plain.judge(hand, j)); break;
            case 38: same(run, "wrong" + at, x::wrong, plain::wrong); break;
            case 39: int other = number(Math.max(0, plain.count(0) - 1));
                same(run, "parting" + at, () -> x.parting(law, other), () -> plain.parting(law, other)); break;
            case 40: same(run, "beside" + at, () -> x.beside(law, hand), () -> plain.beside(law, hand)); break;
            case 41: if (upTo(1) == 0) { same(run, "image" + at, x::image, plain::image); } break;
            case 42: if (upTo(1) == 0) { same(run, "restore" + at, x::restore, plain::restore); } break;
            case 43: int c = number(8); same(run, "count" + at, () -> x.count(c), () -> plain.count(c)); break;
            default: for (int one = 0; one <= hands; one++) {
                int b = one;
                same(run, "bears of all" + at, () -> x.bears(b), () -> plain.bears(b));
            }
        }
    }

    private int claimOf(int hand) {
        return hand >= 0 && hand < plain.count(1) ? plain.claim(hand) : 0;
    }

    private void words(int run, int law) {
        int of = number(1151);
        int term = number(3);
        int value = number(9999);
        int days = number(9999);
        int what = number(2);
        same(run, "words", () -> x.words(law, of, term, value, days, what),
            () -> plain.words(law, of, term, value, days, what));
    }

    private void pass(int run) {
        int keeping = number(5);
        int day = number(999);
        int till = number(999);
        int term = number(3);
        boolean leave = upTo(1) == 0;
        same(run, "pass", () -> x.pass(keeping, day, till, term, leave),
            () -> plain.pass(keeping, day, till, term, leave));
    }

    private void question(int run, int hand) {
        int sort = number(5);
        int other = sort == 4 ? number(5) : upTo(1) == 0 ? number(999) : number(200);
        same(run, "question", () -> x.question(sort, hand, other), () -> plain.question(sort, hand, other));
    }

    private void same(int run, String what, Check.Call got, Check.Call want) {
        calls++;
        int due;
        try {
            due = want.answer();
        } catch (NoSuchElementException e) {
            due = Check.NO_SUCH;
        } catch (IllegalArgumentException e) {
            due = Check.WRONG_ARGUMENT;
        }
        Check.due("run " + run + ", " + what, due, got);
    }
}
