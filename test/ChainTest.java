/** Promises 8 to 21 and 36: passings, what is told of hands, who holds, owes, pays and bears. */
public final class ChainTest {
    private static final int NONE = KeepingHands.NONE;
    private static final int FREE = 0;
    private static final int PAID = 1;
    private static final int LENT = 2;
    private static final int HIRED = 3;
    private static final int WORN = 0;
    private static final int HURT = 1;
    private static final int LOST = 3;

    public static void main(String[] args) {
        pass();
        hand();
        value();
        purse();
        fact();
        harm();
        holder();
        name();
        termByLaw();
        claim();
        whom();
        pays();
        payOwner();
        bears();
        must();
        frees();
        behindTheHolder();
        fullHouse();
        noSuchHands();
        beside();
        Check.end();
    }

    /** In force is a law, and hands have the thing as lent, with leave, each ten days from the last. */
    private static KeepingHands lent(int hands, String law) {
        KeepingHands x = new KeepingHands();
        Check.due(law, 0, () -> Check.law(x, law));
        x.force(0);
        for (int k = 1; k <= hands; k++) {
            x.pass(LENT, 10 * k, 10 * k + 5, 0, true);
        }
        return x;
    }

    private static void row(String what, KeepingHands x, java.util.function.IntUnaryOperator asked, int... due) {
        for (int k = 0; k < due.length; k++) {
            int hand = k;
            Check.due(what + " of " + k, due[k], () -> asked.applyAsInt(hand));
        }
    }

    // Promise 8: "A PASSING: the new HAND; -1: there are 12 besides HAND 0; -2: the DAY is below that ahead"
    private static void pass() {
        KeepingHands x = new KeepingHands();
        int[][] wrong = {{-1, 0, 0, 0}, {6, 0, 0, 0}, {0, -1, 0, 0}, {0, 1000, 0, 0}, {0, 0, -1, 0}, {0, 0, 1000, 0},
            {0, 0, 0, -1}, {0, 0, 0, 4}};
        for (int[] w : wrong) {
            Check.due("pass" + java.util.Arrays.toString(w), Check.WRONG_ARGUMENT,
                () -> x.pass(w[0], w[1], w[2], w[3], true));
        }
        Check.due("no hand was made", 1, () -> x.count(1));
        Check.due("first", 1, () -> x.pass(5, 0, 999, 3, true));
        Check.due("on the same day", 2, () -> x.pass(0, 0, 0, 0, false));
        Check.due("later", 3, () -> x.pass(0, 998, 0, 0, false));
        Check.due("earlier", -2, () -> x.pass(0, 997, 0, 0, false));
        Check.due("earlier, but wrong", Check.WRONG_ARGUMENT, () -> x.pass(0, 997, 0, 4, false));
        Check.due("no hand was made of these", 4, () -> x.count(1));
        for (int k = 4; k <= 12; k++) {
            int due = k;
            Check.due("hand " + k, due, () -> x.pass(0, 999, 0, 0, false));
        }
        Check.due("13th", -1, () -> x.pass(0, 999, 0, 0, false));
        Check.due("13th, earlier", -1, () -> x.pass(0, 1, 0, 0, false));
        Check.due("13th, wrong", Check.WRONG_ARGUMENT, () -> x.pass(6, 999, 0, 0, false));
        Check.due("13 hands", 13, () -> x.count(1));
        Check.due("the last hand", 999, () -> x.hand(12, 1));
        Check.due("no more", Check.NO_SUCH, () -> x.hand(13, 1));
    }

    // Promise 9: "Of a HAND: 0 KEEPING, 1 DAY, 2 TILL, 3 TERM, 4 LEAVE (1, 0), 5 PURSE (0 to 4 of HAND 0: NONE)."
    private static void hand() {
        KeepingHands x = new KeepingHands();
        x.pass(4, 7, 3, 2, true);
        x.pass(1, 8, 99, 0, false);
        int[][] due = {{NONE, NONE, NONE, NONE, NONE, 9999}, {4, 7, 3, 2, 1, 9999}, {1, 8, 99, 0, 0, 9999}};
        for (int k = 0; k < 3; k++) {
            for (int w = 0; w < 6; w++) {
                int hand = k;
                int what = w;
                Check.due("hand " + k + " what " + w, due[k][w], () -> x.hand(hand, what));
            }
        }
        x.purse(0, 5);
        x.purse(2, 6);
        Check.due("purse of 0", 5, () -> x.hand(0, 5));
        Check.due("purse of 1", 9999, () -> x.hand(1, 5));
        Check.due("purse of 2", 6, () -> x.hand(2, 5));
        Check.due("what -1", Check.WRONG_ARGUMENT, () -> x.hand(0, -1));
        Check.due("what 6", Check.WRONG_ARGUMENT, () -> x.hand(0, 6));
        Check.due("hand -1", Check.NO_SUCH, () -> x.hand(-1, 0));
        Check.due("hand 3", Check.NO_SUCH, () -> x.hand(3, 0));
        Check.due("hand 3 what 6", Check.NO_SUCH, () -> x.hand(3, 6));
    }

    // Promise 10: "VALUE: what it was. IllegalArgumentException: it is none such (so below)."
    private static void value() {
        KeepingHands x = new KeepingHands();
        Check.due("at first", 100, () -> x.value(9999));
        Check.due("9999", 9999, () -> x.value(0));
        Check.due("0", 0, () -> x.value(7));
        Check.due("-1", Check.WRONG_ARGUMENT, () -> x.value(-1));
        Check.due("10000", Check.WRONG_ARGUMENT, () -> x.value(10000));
        Check.due("7 stays", 7, () -> x.count(7));
    }

    // Promise 11: "The PURSE of a HAND: what it was."
    private static void purse() {
        KeepingHands x = lent(1, "");
        Check.due("at first", 9999, () -> x.purse(1, 0));
        Check.due("0", 0, () -> x.purse(1, 9999));
        Check.due("of the owner", 9999, () -> x.purse(0, 3));
        Check.due("-1", Check.WRONG_ARGUMENT, () -> x.purse(0, -1));
        Check.due("10000", Check.WRONG_ARGUMENT, () -> x.purse(0, 10000));
        Check.due("it stays", 3, () -> x.hand(0, 5));
        Check.due("no such hand", Check.NO_SUCH, () -> x.purse(2, 10000));
        Check.due("hand -1", Check.NO_SUCH, () -> x.purse(-1, 0));
    }

    // Promise 12: "A FACT (0 to 3) of a HAND: whether it was so."
    private static void fact() {
        KeepingHands x = lent(2, "");
        for (int k = 0; k <= 2; k++) {
            for (int f = 0; f < 4; f++) {
                int hand = k;
                int fact = f;
                Check.dueIf("not so at first", false, () -> x.fact(hand, fact, true));
                Check.dueIf("so", true, () -> x.fact(hand, fact, true));
                Check.dueIf("still so", true, () -> x.fact(hand, fact, false));
                Check.dueIf("not so again", false, () -> x.fact(hand, fact, hand == 1));
            }
        }
        Check.dueIf("of hand 1 alone", true, () -> x.fact(1, 0, true));
        Check.dueIf("not of hand 2", false, () -> x.fact(2, 0, false));
        Check.due("fact -1", Check.WRONG_ARGUMENT, () -> x.fact(0, -1, true) ? 1 : 0);
        Check.due("fact 4", Check.WRONG_ARGUMENT, () -> x.fact(0, 4, true) ? 1 : 0);
        Check.due("hand 3 fact 4", Check.NO_SUCH, () -> x.fact(3, 4, true) ? 1 : 0);
        Check.due("hand -1", Check.NO_SUCH, () -> x.fact(-1, 0, true) ? 1 : 0);
    }

    // Promise 13: "A HARM (NONE: none) befell on a DAY: the one that was told."
    private static void harm() {
        KeepingHands x = new KeepingHands();
        Check.due("none at first", NONE, () -> x.harm(5, 999));
        Check.due("forced", 5, () -> x.harm(0, 0));
        Check.due("worn", 0, () -> x.harm(NONE, 0));
        Check.due("none", NONE, () -> x.harm(2, 0));
        Check.due("harm -2", Check.WRONG_ARGUMENT, () -> x.harm(-2, 0));
        Check.due("harm 6", Check.WRONG_ARGUMENT, () -> x.harm(6, 0));
        Check.due("day -1", Check.WRONG_ARGUMENT, () -> x.harm(0, -1));
        Check.due("day 1000", Check.WRONG_ARGUMENT, () -> x.harm(0, 1000));
        Check.due("none on day 1000", Check.WRONG_ARGUMENT, () -> x.harm(NONE, 1000));
        Check.due("died stays", 2, () -> x.harm(2, 0));
    }

    // Promise 14: "HOLDER; NONE: there is no HARM."
    private static void holder() {
        KeepingHands x = lent(3, "any answers all;");
        x.pass(LENT, 30, 30, 0, true);
        Check.due("no harm", NONE, x::holder);
        int[][] due = {{0, 0}, {9, 0}, {10, 1}, {19, 1}, {20, 2}, {29, 2}, {30, 4}, {999, 4}};
        for (int[] d : due) {
            x.harm(LOST, d[0]);
            Check.due("holder on day " + d[0], d[1], x::holder);
        }
        x.harm(NONE, 30);
        Check.due("no harm again", NONE, x::holder);
        x.harm(LOST, 9);
        row("bears with the owner", x, x::bears, 100, 0, 0, 0, 0);
        row("claim with the owner", x, x::claim, 0, 0, 0, 0, 0);
    }

    // Promise 15: "NONE: it is HAND 0, behind the HOLDER, or there is no HARM."
    private static void name() {
        KeepingHands x = new KeepingHands();
        x.pass(FREE, 10, 25, 1, false);
        x.pass(PAID, 20, 24, 2, true);
        x.pass(LENT, 25, 30, 3, false);
        x.pass(LENT, 26, 30, 3, false);
        row("no harm", x, k -> x.name(k, 6), NONE, NONE, NONE, NONE, NONE);
        x.harm(HURT, 25);
        x.value(77);
        x.fact(1, 0, true);
        x.fact(2, 1, true);
        x.fact(3, 2, true);
        x.fact(3, 3, true);
        row("fault", x, k -> x.name(k, 0), NONE, 1, 0, 0, NONE);
        row("there", x, k -> x.name(k, 1), NONE, 0, 1, 0, NONE);
        row("use", x, k -> x.name(k, 2), NONE, 0, 0, 1, NONE);
        row("late", x, k -> x.name(k, 3), NONE, 0, 1, 0, NONE);
        row("passed", x, k -> x.name(k, 4), NONE, 1, 0, 0, NONE);
        row("term without a law", x, k -> x.name(k, 5), NONE, 0, 0, 0, NONE);
        row("value", x, k -> x.name(k, 6), NONE, 77, 77, 77, NONE);
        row("days", x, k -> x.name(k, 7), NONE, 15, 5, 0, NONE);
        Check.due("what -1", Check.WRONG_ARGUMENT, () -> x.name(0, -1));
        Check.due("what 8", Check.WRONG_ARGUMENT, () -> x.name(4, 8));
        Check.due("hand 5 what 8", Check.NO_SUCH, () -> x.name(5, 8));
        Check.due("hand -1", Check.NO_SUCH, () -> x.name(-1, 0));
    }

    // Promise 15, section 2: "term: TERM if the LAW in force LETS it for its KEEPING, else 0"
    private static void termByLaw() {
        KeepingHands x = new KeepingHands();
        Check.law(x, "free lets 1;paid lets 1,3;any lets 3;");
        x.pass(FREE, 0, 0, 1, true);
        x.pass(FREE, 0, 0, 2, true);
        x.pass(PAID, 0, 0, 1, true);
        x.pass(LENT, 0, 0, 1, true);
        x.pass(LENT, 0, 0, 3, true);
        x.pass(LENT, 0, 0, 0, true);
        x.harm(HURT, 0);
        row("term by no law", x, k -> x.name(k, 5), NONE, 0, 0, 0, 0, 0, 0);
        x.force(0);
        row("term by the law", x, k -> x.name(k, 5), NONE, 1, 0, 1, 0, 3, 0);
    }

    // Promise 16: "CLAIM (0 likewise)."
    private static void claim() {
        KeepingHands x = lent(0, "lent answers lost;lent swears hurt if fault=1;hired answers all if passed=1;"
            + "lent owes value-days;any lets 2;hired owes 10*term+late;");
        x.pass(LENT, 10, 20, 0, true);
        x.pass(HIRED, 20, 20, 2, false);
        x.pass(HIRED, 30, 50, 2, true);
        x.pass(LENT, 40, 50, 2, true);
        row("no harm", x, x::claim, 0, 0, 0, 0, 0);
        x.harm(LOST, 35);
        row("lost", x, x::claim, 0, 75, 21, 0, 0);
        x.harm(HURT, 35);
        row("hurt", x, x::claim, 0, 0, 21, 0, 0);
        x.fact(1, 0, true);
        row("hurt by fault", x, x::claim, 0, 75, 21, 0, 0);
        x.fact(1, 3, true);
        row("sworn", x, x::claim, 0, 0, 21, 0, 0);
        x.harm(LOST, 35);
        row("sworn, but answering", x, x::claim, 0, 75, 21, 0, 0);
        x.value(0);
        row("nothing owed", x, x::claim, 0, 0, 21, 0, 0);
        x.force(NONE);
        x.value(100);
        row("no law", x, x::claim, 0, 0, 0, 0, 0);
        row("the owner bears all", x, x::bears, 100, 0, 0, 0, 0);
    }

    // Promise 17: "WHOM; NONE likewise."
    private static void whom() {
        KeepingHands x = new KeepingHands();
        boolean[] leave = {true, false, false, true, false, true};
        for (boolean one : leave) {
            x.pass(LENT, 10, 10, 0, one);
        }
        x.pass(LENT, 11, 11, 0, false);
        row("no harm", x, x::whom, NONE, NONE, NONE, NONE, NONE, NONE, NONE, NONE);
        x.harm(LOST, 10);
        row("whom", x, x::whom, NONE, 0, 1, 0, 0, 4, 0, NONE);
        x.harm(LOST, 11);
        row("whom, all", x, x::whom, NONE, 0, 1, 0, 0, 4, 0, 6);
        x.harm(LOST, 9);
        row("with the owner", x, x::whom, NONE, NONE, NONE, NONE, NONE, NONE, NONE, NONE);
    }

    // Promise 18: "What a HAND PAYS in the END (0 likewise)."
    private static void pays() {
        KeepingHands x = lent(3, "any answers all;");
        x.harm(LOST, 30);
        row("rich purses", x, x::pays, 0, 100, 100, 100);
        row("rich purses bear", x, x::bears, 0, 0, 0, 100);
        x.purse(3, 30);
        row("a poor last one", x, x::pays, 0, 100, 100, 30);
        row("a poor last one bears", x, x::bears, 0, 0, 70, 30);
        x.purse(2, 20);
        x.purse(1, 10);
        row("with what they get", x, x::pays, 0, 60, 50, 30);
        row("with what they get they bear", x, x::bears, 40, 10, 20, 30);
        x.purse(3, 0);
        row("an empty purse", x, x::pays, 0, 30, 20, 0);
        x.harm(LOST, 25);
        row("behind the holder", x, x::pays, 0, 30, 20, 0);
        x.harm(NONE, 25);
        row("no harm", x, x::pays, 0, 0, 0, 0);
    }

    // Promise 18, section 2: "those who answer to HAND 0 pay, by numbers, no more than what VALUE still lacks"
    private static void payOwner() {
        KeepingHands x = new KeepingHands();
        Check.law(x, "any answers all;any owes 60;paid owes 130;");
        x.force(0);
        x.pass(LENT, 0, 0, 0, false);
        x.pass(LENT, 0, 0, 0, false);
        x.pass(LENT, 0, 0, 0, true);
        x.pass(PAID, 0, 0, 0, true);
        x.harm(LOST, 0);
        row("whom", x, x::whom, NONE, 0, 0, 0, 3);
        row("no more than still lacks", x, x::pays, 0, 60, 40, 0, 130);
        row("the owner bears nothing", x, x::bears, 0, 60, 40, -130, 130);
        x.purse(1, 10);
        row("a poor first one", x, x::pays, 0, 10, 60, 30, 130);
        x.value(200);
        row("more to pay", x, x::pays, 0, 10, 60, 60, 130);
        row("the owner bears the rest", x, x::bears, 70, 10, 60, -70, 130);
        x.value(0);
        row("nothing to pay", x, x::pays, 0, 0, 0, 0, 130);
        x.purse(4, 50);
        row("first by claims, then by what lacks", x, x::bears, 0, 0, 0, -50, 50);
    }

    // Promise 19: "What it BEARS."
    private static void bears() {
        KeepingHands x = lent(2, "any answers all;");
        row("no harm", x, x::bears, 0, 0, 0);
        x.harm(LOST, 15);
        row("behind the holder", x, x::bears, 0, 100, 0);
        x.harm(LOST, 5);
        row("with the owner", x, x::bears, 100, 0, 0);
        x.purse(0, 0);
        row("the owner's purse is no matter", x, x::bears, 100, 0, 0);
        x.value(9999);
        row("all of it", x, x::bears, 9999, 0, 0);
    }

    // Promise 20: "it has SWEARS, and no ANSWERS, and has not sworn."
    private static void must() {
        KeepingHands x = lent(4, "lent swears all if fault=1;lent answers all if use=1;lent owes 0;");
        Check.dueIf("no harm", false, () -> x.must(1));
        x.fact(1, 0, true);
        x.fact(2, 0, true);
        x.fact(2, 2, true);
        x.fact(4, 0, true);
        x.fact(0, 0, true);
        x.harm(LOST, 30);
        row("must", x, k -> x.must(k) ? 1 : 0, 0, 1, 0, 0, 0);
        x.harm(LOST, 40);
        row("must, all", x, k -> x.must(k) ? 1 : 0, 0, 1, 0, 0, 1);
        x.fact(1, 3, true);
        row("sworn", x, k -> x.must(k) ? 1 : 0, 0, 0, 0, 0, 1);
        x.fact(2, 2, false);
        row("no answers", x, k -> x.must(k) ? 1 : 0, 0, 0, 1, 0, 1);
        x.force(NONE);
        row("no law", x, k -> x.must(k) ? 1 : 0, 0, 0, 0, 0, 0);
        x.force(0);
        x.harm(NONE, 0);
        row("no harm again", x, k -> x.must(k) ? 1 : 0, 0, 0, 0, 0, 0);
    }

    // Promise 21: "By how much less a HAND would BEAR if it swore (all else as it is; 0 if it has sworn)."
    private static void frees() {
        KeepingHands x = lent(3, "lent swears all;lent answers all if use=1;");
        row("no harm", x, x::frees, 0, 0, 0, 0);
        x.harm(LOST, 20);
        x.purse(2, 30);
        row("bears", x, x::bears, 0, 70, 30, 0);
        row("frees", x, x::frees, 0, 100, 30, 0);
        row("all is as it was", x, x::bears, 0, 70, 30, 0);
        Check.dueIf("nobody swore", false, () -> x.fact(1, 3, false));
        x.fact(2, 2, true);
        row("an oath that does not help", x, x::frees, 0, 100, 0, 0);
        x.fact(1, 3, true);
        row("sworn", x, x::frees, 0, 0, 0, 0);
        row("one who swore and gets", x, x::bears, 100, -30, 30, 0);
    }

    // Promises 16 to 21: "(0 likewise)", "NONE likewise": also of one who held the thing till another DAY was told
    private static void behindTheHolder() {
        KeepingHands x = lent(2, "any swears all;");
        x.harm(LOST, 20);
        row("claims", x, x::claim, 0, 100, 100);
        row("must", x, k -> x.must(k) ? 1 : 0, 0, 1, 1);
        x.harm(LOST, 10);
        row("claims by an earlier day", x, x::claim, 0, 100, 0);
        row("whom by an earlier day", x, x::whom, NONE, 0, NONE);
        row("pays by an earlier day", x, x::pays, 0, 100, 0);
        row("bears by an earlier day", x, x::bears, 0, 100, 0);
        row("must by an earlier day", x, k -> x.must(k) ? 1 : 0, 0, 1, 0);
        row("frees by an earlier day", x, x::frees, 0, 100, 0);
        x.harm(NONE, 10);
        row("claims by none", x, x::claim, 0, 0, 0);
        row("must by none", x, k -> x.must(k) ? 1 : 0, 0, 0, 0);
    }

    // Section 2: "a new one (1, 2, .. 12)": what is promised of a HAND holds of the last.
    private static void fullHouse() {
        KeepingHands x = lent(12, "lent answers all if fault=1;lent swears all if use=1;");
        x.harm(HURT, 999);
        Check.due("holder", 12, x::holder);
        x.fact(12, 2, true);
        row("claims", x, x::claim, 0, 0, 0, 0, 0, 0, 0, 0, 0, 0, 0, 0, 100);
        row("bears", x, x::bears, 100, 0, 0, 0, 0, 0, 0, 0, 0, 0, 0, -100, 100);
        row("frees", x, x::frees, 0, 0, 0, 0, 0, 0, 0, 0, 0, 0, 0, 0, 100);
        Check.due("wrong", 12, x::wrong);
        x.judge(12, 100);
        Check.due("none is wrong", NONE, x::wrong);
        x.question(2, 12, 0);
        x.question(0, 12, 0);
        row("in a case", x, k -> x.inCase(0, k), 100, 0, 0, 0, 0, 0, 0, 0, 0, 0, 0, 0, 0);
        Check.due("cases", 3, () -> x.cases(12));
        Check.due("least", 3, x::least);
    }

    // Promise 9: "NoSuchElementException: no such HAND (so below)"
    private static void noSuchHands() {
        KeepingHands x = lent(1, "any answers all;");
        for (int hand : new int[] {-1, 2, 13, Integer.MAX_VALUE, Integer.MIN_VALUE}) {
            Check.due("claim", Check.NO_SUCH, () -> x.claim(hand));
            Check.due("whom", Check.NO_SUCH, () -> x.whom(hand));
            Check.due("pays", Check.NO_SUCH, () -> x.pays(hand));
            Check.due("bears", Check.NO_SUCH, () -> x.bears(hand));
            Check.due("must", Check.NO_SUCH, () -> x.must(hand) ? 1 : 0);
            Check.due("frees", Check.NO_SUCH, () -> x.frees(hand));
            Check.due("beside", Check.NO_SUCH, () -> x.beside(0, hand));
        }
    }

    // Promise 36: "What a HAND would BEAR by another LAW."
    private static void beside() {
        KeepingHands x = lent(2, "any answers all;");
        Check.law(x, "lent answers all if late=1;lent lets 2;lent owes 10*term;");
        x.pass(LENT, 25, 26, 2, true);
        Check.due("no harm", 0, () -> x.beside(0, 0));
        x.harm(LOST, 27);
        row("by the law in force", x, k -> x.beside(0, k), 0, 0, 0, 100);
        row("by the other, its terms too", x, k -> x.beside(1, k), 100, 0, 0 - 20, 20);
        row("the one in force stays", x, x::bears, 0, 0, 0, 100);
        x.force(NONE);
        row("by a law beside none", x, k -> x.beside(0, k), 0, 0, 0, 100);
        Check.due("no such law", Check.WRONG_ARGUMENT, () -> x.beside(2, 0));
        Check.due("none", Check.WRONG_ARGUMENT, () -> x.beside(NONE, 0));
        Check.due("no such hand, no such law", Check.NO_SUCH, () -> x.beside(2, 4));
    }
}
