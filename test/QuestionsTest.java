/** Promises 22 to 28: open questions, what is borne in their cases, what hangs on one, the fewest that settle all. */
public final class QuestionsTest {
    private static final int NONE = KeepingHands.NONE;
    private static final int LENT = 2;
    private static final int HURT = 1;
    private static final int LOST = 3;

    public static void main(String[] args) {
        question();
        inCase();
        hereAsTold();
        theLaterCounts();
        otherHarmAndDay();
        withoutHarm();
        sureAndCases();
        hangs();
        hangsOnWhatIsNotSo();
        least();
        leastOfMany();
        find();
        findHarmAndDay();
        Check.end();
    }

    private static KeepingHands lent(int hands, String law) {
        KeepingHands x = new KeepingHands();
        Check.due(law, 0, () -> Check.law(x, law));
        x.force(0);
        for (int k = 1; k <= hands; k++) {
            x.pass(LENT, 10 * k, 10 * k + 5, 0, true);
        }
        x.harm(LOST, 10 * hands);
        return x;
    }

    private static void row(String what, java.util.function.IntUnaryOperator asked, int... due) {
        for (int i = 0; i < due.length; i++) {
            int one = i;
            Check.due(what + " of " + i, due[i], () -> asked.applyAsInt(one));
        }
    }

    // Promise 22: "A QUESTION: its number; -1: there are 8. IllegalArgumentException: the sort, or .. the HARM, DAY"
    private static void question() {
        KeepingHands x = lent(1, "");
        Check.due("sort -1", Check.WRONG_ARGUMENT, () -> x.question(-1, 0, 0));
        Check.due("sort 6", Check.WRONG_ARGUMENT, () -> x.question(6, 0, 0));
        Check.due("sort 6 of no hand", Check.WRONG_ARGUMENT, () -> x.question(6, 2, 0));
        Check.due("no such hand", Check.NO_SUCH, () -> x.question(0, 2, 0));
        Check.due("hand -1", Check.NO_SUCH, () -> x.question(3, -1, 0));
        Check.due("harm -1", Check.WRONG_ARGUMENT, () -> x.question(4, 0, -1));
        Check.due("harm 6", Check.WRONG_ARGUMENT, () -> x.question(4, 0, 6));
        Check.due("day -1", Check.WRONG_ARGUMENT, () -> x.question(5, 0, -1));
        Check.due("day 1000", Check.WRONG_ARGUMENT, () -> x.question(5, 0, 1000));
        Check.due("none of these is one", 0, () -> x.count(2));
        Check.due("the other number is no matter", 0, () -> x.question(0, 1, -7));
        Check.due("of the owner", 1, () -> x.question(3, 0, 5000));
        Check.due("the hand is none", 2, () -> x.question(4, -9, 5));
        Check.due("the hand is none, again", 3, () -> x.question(5, 99, 999));
        Check.due("harm 0", 4, () -> x.question(4, 0, 0));
        Check.due("day 0", 5, () -> x.question(5, 0, 0));
        Check.due("the same again", 6, () -> x.question(5, 0, 0));
        Check.due("the eighth", 7, () -> x.question(2, 1, 0));
        Check.due("the ninth", -1, () -> x.question(2, 1, 0));
        Check.due("the ninth, no such hand", Check.NO_SUCH, () -> x.question(2, 2, 0));
        Check.due("the ninth, no such sort", Check.WRONG_ARGUMENT, () -> x.question(6, 1, 0));
        Check.due("eight", 8, () -> x.count(2));
        Check.due("256 cases", 0, () -> x.inCase(255, 1));
        Check.due("no more", Check.WRONG_ARGUMENT, () -> x.inCase(256, 1));
    }

    // Promise 23: "What a HAND BEARS in a CASE. IllegalArgumentException: no such CASE."
    private static void inCase() {
        KeepingHands x = lent(2, "lent answers all if fault=1 and there=0;");
        Check.due("one case without questions", 100, () -> x.inCase(0, 0));
        Check.due("no other", Check.WRONG_ARGUMENT, () -> x.inCase(1, 0));
        x.fact(1, 0, true);
        x.question(0, 1, 0);
        x.question(0, 2, 0);
        x.question(1, 2, 0);
        row("bears as told", x::bears, 0, 100, 0);
        row("owner", b -> x.inCase(b, 0), 100, 0, 100, 0, 100, 0, 100, 0);
        row("hand 1", b -> x.inCase(b, 1), 0, 100, -100, 0, 0, 100, 0, 100);
        row("hand 2", b -> x.inCase(b, 2), 0, 0, 100, 100, 0, 0, 0, 0);
        row("still as told", x::bears, 0, 100, 0);
        Check.due("case -1", Check.WRONG_ARGUMENT, () -> x.inCase(-1, 0));
        Check.due("case 8", Check.WRONG_ARGUMENT, () -> x.inCase(8, 0));
        Check.due("case 8, no such hand", Check.NO_SUCH, () -> x.inCase(8, 3));
        Check.due("hand -1", Check.NO_SUCH, () -> x.inCase(0, -1));
    }

    // Promise 23: "What a HAND BEARS in a CASE": all but what is asked is in it as it was told.
    private static void hereAsTold() {
        KeepingHands x = new KeepingHands();
        Check.law(x, "lent answers all if fault=1 or there=1;any lets 2;lent owes 10*term+value+late+passed;"
            + "hired swears all;hired owes days;");
        x.force(0);
        x.pass(LENT, 5, 6, 2, false);
        x.pass(3, 6, 9, 0, true);
        x.harm(LOST, 8);
        x.value(50);
        x.purse(1, 40);
        x.fact(1, 1, true);
        x.question(0, 1, 0);
        row("owner", b -> x.inCase(b, 0), 8, 8);
        row("hand 1", b -> x.inCase(b, 1), 40, 40);
        row("hand 2, which answers to the owner", b -> x.inCase(b, 2), 2, 2);
        row("frees", x::frees, 0, 0, 2);
        x.purse(1, 9999);
        x.value(100);
        row("hand 1 by its term", b -> x.inCase(b, 1), 100, 100);
        x.fact(1, 1, false);
        x.fact(2, 3, true);
        row("hand 1 by its fault alone", b -> x.inCase(b, 1), 0, 100);
        row("hand 2 swore", b -> x.inCase(b, 2), 0, 0);
        x.value(9999);
        x.purse(1, 9000);
        row("hand 1 by its purse", b -> x.inCase(b, 1), 0, 9000);
        x.value(0);
        x.pass(LENT, 7, 9, 2, true);
        x.pass(LENT, 8, 9, 2, true);
        x.fact(4, 0, true);
        row("hand 4 by its term, to hand 3", b -> x.inCase(b, 4), 20, 20);
        row("hand 3 gets it", b -> x.inCase(b, 3), -20, -20);
        Check.due("frees hand 4 of nothing", 0, () -> x.frees(4));
    }

    // Section 3: "the later QUESTION counts."
    private static void theLaterCounts() {
        KeepingHands x = lent(1, "lent answers hurt;lent answers lost if fault=1;lent owes 10+days;");
        x.question(0, 1, 0);
        x.question(0, 1, 0);
        row("a fact", b -> x.inCase(b, 1), 0, 0, 10, 10);
        x.find(0, true);
        x.find(0, true);
        x.question(5, 0, 15);
        x.question(5, 0, 17);
        row("a day", b -> x.inCase(b, 1), 10, 10, 17, 17);
        x.find(0, false);
        x.find(0, false);
        x.fact(1, 0, false);
        x.question(4, 0, HURT);
        x.question(4, 0, LOST);
        row("a harm", b -> x.inCase(b, 1), 0, 0, 0, 0);
        x.question(4, 0, HURT);
        row("a third harm", b -> x.inCase(b, 1), 0, 0, 0, 0, 10, 10, 10, 10);
    }

    // Section 3: "of sorts 4, 5: the other one, if 1, the told one, if 0"
    private static void otherHarmAndDay() {
        KeepingHands x = lent(2, "lent answers hurt;lent answers lost if late=1;");
        x.harm(LOST, 20);
        x.question(4, 0, HURT);
        x.question(5, 0, 26);
        x.question(5, 0, 19);
        row("owner", b -> x.inCase(b, 0), 0, 0, 0, 0, 0, 0, 0, 0);
        row("hand 1", b -> x.inCase(b, 1), 100, 0, 100, 0, 100, 100, 100, 100);
        row("hand 2", b -> x.inCase(b, 2), 0, 100, 0, 100, 0, 0, 0, 0);
        x.find(2, false);
        row("hand 2, two questions", b -> x.inCase(b, 2), 0, 100, 100, 100);
        Check.due("the harm as told", LOST, () -> x.harm(LOST, 20));
    }

    // Section 3: "4 (the HARM is another one), 5 (its DAY is another one)": where no HARM is told
    private static void withoutHarm() {
        KeepingHands x = lent(1, "lent answers hurt;lent owes days;");
        x.harm(NONE, 17);
        x.question(4, 0, HURT);
        row("a harm that may be", b -> x.inCase(b, 1), 0, 7);
        row("the owner", b -> x.inCase(b, 0), 0, 93);
        x.question(5, 0, 19);
        row("a day that may be", b -> x.inCase(b, 1), 0, 7, 0, 9);
        Check.due("the day does not matter by itself", 3, x::least);
        KeepingHands y = new KeepingHands();
        y.question(4, 0, HURT);
        Check.due("what the owner bears is to be settled, too", 1, y::least);
        row("a new object, on day 0", b -> y.inCase(b, 0), 0, 100);
        y.pass(LENT, 0, 0, 0, true);
        Check.law(y, "any answers all;");
        y.force(0);
        row("a new object, held by hand 1", b -> y.inCase(b, 1), 0, 100);
    }

    // Promises 24, 25: "SURE (2), else MAY (1), else 0."; "In how many CASES it BEARS something."
    private static void sureAndCases() {
        KeepingHands x = lent(3, "lent answers lost;");
        row("sure without questions", x::sure, 0, 0, 0, 2);
        row("cases without questions", x::cases, 0, 0, 0, 1);
        x.question(5, 0, 25);
        x.question(5, 0, 15);
        x.question(4, 0, HURT);
        row("sure", x::sure, 1, 1, 0, 1);
        row("cases", x::cases, 4, 2, 0, 2);
        x.question(5, 0, 25);
        x.find(0, true);
        row("cases anew", x::cases, 4, 0, 4, 0);
        x.question(5, 0, 35);
        x.question(2, 1, 0);
        row("cases anew again", x::cases, 16, 0, 8, 8);
        x.value(0);
        row("nothing is borne", x::sure, 0, 0, 0, 0);
        row("in no case", x::cases, 0, 0, 0, 0);
        KeepingHands one = lent(1, "lent answers all if fault=1 and use=1;");
        one.question(0, 1, 0);
        one.question(2, 1, 0);
        row("in one case of four", one::cases, 3, 1);
        row("that is enough for may", one::sure, 1, 1);
        KeepingHands y = lent(2, "lent answers lost;hired answers all;hired owes 30;");
        y.pass(3, 20, 20, 0, true);
        y.question(0, 1, 0);
        y.fact(2, 0, true);
        row("less than nothing is no bearing", y::bears, 0, 0, 70, 30);
        y.harm(LOST, 20);
        y.value(10);
        row("more comes than goes", y::bears, 0, 0, -20, 30);
        row("sure of that", y::sure, 0, 0, 0, 2);
        row("cases of that", y::cases, 0, 0, 0, 2);
        for (int hand : new int[] {-1, 4}) {
            Check.due("sure", Check.NO_SUCH, () -> y.sure(hand));
            Check.due("cases", Check.NO_SUCH, () -> y.cases(hand));
            Check.due("hangs", Check.NO_SUCH, () -> y.hangs(hand));
        }
    }

    // Promise 26: "HANGS; NONE."
    private static void hangs() {
        KeepingHands x = lent(2, "lent answers all if fault=1;");
        row("no questions", x::hangs, NONE, NONE, NONE);
        x.question(1, 2, 0);
        row("a question that is no matter", x::hangs, NONE, NONE, NONE);
        x.question(0, 2, 0);
        row("on the second", x::hangs, NONE, NONE, 1);
        x.fact(1, 0, true);
        row("one on its being so, one on its not being so", x::hangs, NONE, 1, 1);
        x.question(0, 1, 0);
        row("hand 1 on two", x::hangs, 2, NONE, 1);
        x.find(0, true);
        row("with a number less", x::hangs, 1, NONE, 0);
    }

    // Promise 26, section 3: "or in just those in which it is 0."
    private static void hangsOnWhatIsNotSo() {
        KeepingHands x = lent(1, "lent answers all if fault=0;");
        x.question(0, 1, 0);
        row("the owner just if so, hand 1 just if not", x::hangs, 0, 0);
        row("cases", x::cases, 1, 1);
        x.question(0, 1, 0);
        row("the later one", x::hangs, 1, 1);
        x.question(2, 1, 0);
        row("a third is no matter", x::hangs, 1, 1);
        KeepingHands y = lent(1, "lent answers all;");
        y.question(0, 1, 0);
        row("what is sure hangs on nothing", y::hangs, NONE, NONE);
    }

    // Promise 27: "LEAST, as bits."
    private static void least() {
        KeepingHands x = lent(2, "lent answers all if fault=1;lent answers all if there=1 and there=0;");
        Check.due("no questions", 0, x::least);
        x.question(1, 1, 0);
        Check.due("one that is no matter", 0, x::least);
        x.question(0, 1, 0);
        Check.due("one", 2, x::least);
        x.question(0, 2, 0);
        Check.due("two", 6, x::least);
        x.question(0, 1, 0);
        Check.due("the later one", 12, x::least);
        x.purse(2, 0);
        Check.due("one who can't pay", 8, x::least);
        x.purse(1, 0);
        Check.due("nobody can pay", 0, x::least);
        x.harm(NONE, 0);
        Check.due("no harm", 0, x::least);
    }

    // Promise 27, section 3: "all CASES with the same bits of these have the same BEARS of all HANDS"
    private static void leastOfMany() {
        KeepingHands x = lent(8, "lent answers all if fault=1;lent owes 1;");
        for (int k = 1; k <= 8; k++) {
            x.question(0, k, 0);
        }
        Check.due("all eight", 255, x::least);
        Check.due("the owner bears some in each case", 256, () -> x.cases(0));
        Check.due("the owner hangs on nothing", NONE, () -> x.hangs(0));
        Check.due("hand 8 hangs on the last", 7, () -> x.hangs(8));
        x.value(1);
        Check.due("the owner hangs on hand 1 now", 0, () -> x.hangs(0));
        KeepingHands none = lent(1, "");
        for (int i = 0; i < 8; i++) {
            none.question(i % 4, 1, 0);
        }
        Check.due("none of eight", 0, none::least);
        Check.due("the owner bears in all cases", 256, () -> none.cases(0));
        Check.due("and hangs on nothing", NONE, () -> none.hangs(0));
        KeepingHands y = lent(2, "lent answers all if fault=1 and use=1;");
        y.question(0, 2, 0);
        y.question(1, 2, 0);
        y.question(2, 2, 0);
        Check.due("two that matter only together", 5, y::least);
        Check.due("neither settles it alone", NONE, () -> y.hangs(2));
        Check.due("in one case of four, twice", 2, () -> y.cases(2));
        KeepingHands z = lent(2, "lent answers all if fault=1;");
        z.fact(2, 0, true);
        z.question(0, 1, 0);
        Check.due("it changes the bearing of hands 1 and 2 alone", 1, z::least);
        Check.due("hand 1 gets", -100, () -> z.inCase(0, 1));
        Check.due("hand 1 gets and pays", 0, () -> z.inCase(1, 1));
    }

    // Promise 28: "FINDING: the sort."; section 3: "it is gone (those behind it have a number less)"
    private static void find() {
        KeepingHands x = lent(1, "");
        Check.due("none", Check.NO_SUCH, () -> x.find(0, true));
        for (int sort = 0; sort < 4; sort++) {
            x.question(sort, 1, 0);
        }
        Check.due("find -1", Check.NO_SUCH, () -> x.find(-1, true));
        Check.due("find 4", Check.NO_SUCH, () -> x.find(4, true));
        Check.due("sort 1", 1, () -> x.find(1, true));
        Check.due("sort 2, with a number less", 2, () -> x.find(1, false));
        Check.due("sort 0", 0, () -> x.find(0, true));
        Check.due("sort 3", 3, () -> x.find(0, false));
        Check.due("all gone", 0, () -> x.count(2));
        Check.due("no more", Check.NO_SUCH, () -> x.find(0, true));
        row("told", f -> x.fact(1, f, false) ? 1 : 0, 1, 1, 0, 0);
        x.fact(1, 2, true);
        x.question(2, 1, 0);
        x.find(0, false);
        Check.dueIf("told not so", false, () -> x.fact(1, 2, false));
        for (int i = 0; i < 8; i++) {
            x.question(i % 4, 0, 0);
        }
        x.find(7, true);
        Check.due("room for one again", 7, () -> x.question(0, 1, 0));
    }

    // Promise 28, section 3: "what it makes so is told then."
    private static void findHarmAndDay() {
        KeepingHands x = lent(2, "any answers all;any owes days;");
        x.question(4, 0, HURT);
        x.question(5, 0, 17);
        x.question(4, 0, 0);
        Check.due("not the other day", 5, () -> x.find(1, false));
        Check.due("holder as told", 2, x::holder);
        Check.due("not the other harm", 4, () -> x.find(1, false));
        Check.due("the other harm", 4, () -> x.find(0, true));
        Check.due("it is told", HURT, () -> x.harm(HURT, 20));
        x.question(5, 0, 17);
        Check.due("the other day", 5, () -> x.find(0, true));
        Check.due("holder by it", 1, x::holder);
        Check.due("days by it", 7, () -> x.name(1, 7));
        Check.due("the harm stays", HURT, () -> x.harm(NONE, 3));
        x.question(4, 0, LOST);
        x.find(0, true);
        Check.due("a harm where none was", 0, x::holder);
    }
}
