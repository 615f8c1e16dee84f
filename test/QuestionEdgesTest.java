import java.util.function.IntUnaryOperator;

/** Promises 22 to 28 and section 3: each sentence that names an edge, told above the test that stands for it. */
public final class QuestionEdgesTest {
    private static final int NONE = KeepingHands.NONE;
    private static final int LENT = 2;
    private static final int HURT = 1;
    private static final int LOST = 3;

    public static void main(String[] args) {
        questionNumbers();
        questionNinth();
        questionSort();
        questionHarmAndDay();
        questionOther();
        questionOfNoHand();
        questionWhoseHandIsNone();
        inCaseOfNoQuestion();
        inCaseOfEight();
        inCaseNoSuch();
        inCaseLeavesAll();
        inCaseFacts();
        inCaseHarm();
        inCaseDay();
        inCaseLater();
        inCaseWithoutHarm();
        inCaseAllElse();
        sureAboveNothing();
        sureInAll();
        mayInOne();
        sureWithoutQuestions();
        casesNoneToAll();
        casesAboveNothing();
        hangsWithout();
        hangsOnTheLeast();
        hangsOnTheLast();
        hangsJustThose();
        hangsOnItsNotBeingSo();
        leastWithout();
        leastOfAll();
        leastFewest();
        leastOfAllHands();
        findGone();
        findNumberLess();
        findTold();
        findToldHarmAndDay();
        findNoSuch();
        findOfEight();
        noSuchHands();
        Check.end();
    }

    /** A law in force, so many hands that have the thing as lent, each from day 10, 20, .. on, lost on the last day. */
    private static KeepingHands lent(int hands, String law) {
        KeepingHands x = new KeepingHands();
        Check.due(law, 0, () -> Check.law(x, law));
        x.force(0);
        for (int k = 1; k <= hands; k++) {
            x.pass(LENT, 10 * k, 10 * k + 5, 0, true);
        }
        x.harm(LOST, 10 * hands);
        return x;
    }

    private static void row(String what, IntUnaryOperator asked, int... due) {
        for (int i = 0; i < due.length; i++) {
            int one = i;
            Check.due(what + " of " + i, due[i], () -> asked.applyAsInt(one));
        }
    }

    private static KeepingHands eight() {
        KeepingHands x = Refused.plenty();
        for (int i = 2; i < 8; i++) {
            x.question(i % 4, i % 3, 0);
        }
        return x;
    }

    // Promise 22: "A QUESTION: its number"; section 3: "numbered from 0 on"
    private static void questionNumbers() {
        KeepingHands x = lent(1, "");
        for (int i = 0; i < 8; i++) {
            int due = i;
            Check.due("so many", due, () -> x.count(2));
            Check.due("number", due, () -> x.question(due % 6, 1, due % 6));
        }
        Check.due("eight", 8, () -> x.count(2));
    }

    // Promise 22: "-1: there are 8."; section 3: "8 at most"
    private static void questionNinth() {
        for (int sort = 0; sort < 6; sort++) {
            int s = sort;
            Refused.is("a ninth of sort " + s, -1, QuestionEdgesTest::eight, x -> x.question(s, 1, 5));
        }
    }

    // Promise 22: "IllegalArgumentException: the sort"; section 4: "an exception ahead of -1"
    private static void questionSort() {
        int wrong = Check.WRONG_ARGUMENT;
        Refused.outside("question of sort", 0, 5, wrong, sort -> x -> x.question(sort, 1, 0));
        Refused.outside("question of sort, of no hand", 0, 5, wrong, sort -> x -> x.question(sort, 4, 0));
        Refused.outside("question of sort, of hand -1", 0, 5, wrong, sort -> x -> x.question(sort, -1, 0));
        Refused.is("a ninth of sort 6", wrong, QuestionEdgesTest::eight, x -> x.question(6, 1, 0));
        Refused.is("a ninth of sort -1", wrong, QuestionEdgesTest::eight, x -> x.question(-1, 1, 0));
    }

    // Promise 22: "IllegalArgumentException: .. (of 4, 5) the HARM, DAY": each at its edges
    private static void questionHarmAndDay() {
        int wrong = Check.WRONG_ARGUMENT;
        Refused.outside("question of harm", 0, 5, wrong, harm -> x -> x.question(4, 1, harm));
        Refused.outside("question of day", 0, 999, wrong, day -> x -> x.question(5, 1, day));
        Refused.outside("question of harm, of no hand", 0, 5, wrong, harm -> x -> x.question(4, 9, harm));
        Refused.outside("question of day, of no hand", 0, 999, wrong, day -> x -> x.question(5, -1, day));
        Refused.is("a ninth of harm 6", wrong, QuestionEdgesTest::eight, x -> x.question(4, 0, 6));
        Refused.is("a ninth of day 1000", wrong, QuestionEdgesTest::eight, x -> x.question(5, 0, 1000));
        KeepingHands x = lent(1, "any answers worn;any answers forced;");
        Check.due("worn", 0, () -> x.question(4, 0, 0));
        Check.due("forced", 1, () -> x.question(4, 0, 5));
        Check.due("day 0", 2, () -> x.question(5, 0, 0));
        Check.due("day 999", 3, () -> x.question(5, 0, 999));
        // The last day counts in cases from 8 on, and else that which was told: the owner has the thing on none of them.
        row("hand 1", b -> x.inCase(b, 1), 0, 0, 100, 100, 0, 0, 100, 100, 0, 0, 100, 100, 0, 0, 100, 100);
        Check.due("all told", 4, () -> x.count(2));
    }

    // Promise 22: "(of sorts 0 to 3 the other number is no matter"
    private static void questionOther() {
        KeepingHands x = lent(1, "any answers all if fault+there+use=3;");
        int[] others = {Integer.MIN_VALUE, -1, 6, 1000, Integer.MAX_VALUE};
        for (int i = 0; i < 4; i++) {
            int sort = i;
            Check.due("by " + others[i], sort, () -> x.question(sort, 1, others[sort]));
        }
        Check.due("none is so", 0, () -> x.inCase(0, 1));
        Check.due("three are so", 100, () -> x.inCase(7, 1));
        Check.due("one is not so", 0, () -> x.inCase(11, 1));
    }

    // Promise 22: "NoSuchElementException: (of 0 to 3) no such HAND."
    private static void questionOfNoHand() {
        for (int sort = 0; sort < 4; sort++) {
            int s = sort;
            Refused.outside("question of sort " + s + ", hand", 0, 3, Check.NO_SUCH, hand -> x -> x.question(s, hand, 0));
            Refused.is("a ninth of no hand", Check.NO_SUCH, QuestionEdgesTest::eight, x -> x.question(s, 4, 0));
            KeepingHands x = lent(12, "");
            Check.due("hand 0", 0, () -> x.question(s, 0, 0));
            Check.due("hand 12", 1, () -> x.question(s, 12, 0));
            Check.due("hand 13", Check.NO_SUCH, () -> x.question(s, 13, 0));
        }
    }

    // Promise 22: "of 4, 5 the HAND is none.)"
    private static void questionWhoseHandIsNone() {
        KeepingHands x = lent(1, "any answers hurt;any owes days;");
        Check.due("harm, hand -1", 0, () -> x.question(4, -1, HURT));
        Check.due("day, hand 2", 1, () -> x.question(5, 2, 17));
        Check.due("harm, hand far off", 2, () -> x.question(4, Integer.MIN_VALUE, HURT));
        Check.due("day, hand far off", 3, () -> x.question(5, Integer.MAX_VALUE, 18));
        Check.due("in a case", 8, () -> x.inCase(12, 1));
        Check.due("found so", 5, () -> x.find(3, true));
        Check.due("found so too", 4, () -> x.find(2, true));
        Check.due("told", 8, () -> x.bears(1));
    }

    // Section 3: "A CASE (bits)": without QUESTIONS there is one.
    private static void inCaseOfNoQuestion() {
        KeepingHands x = lent(2, "any answers all;");
        row("in the one case", k -> x.inCase(0, k), 0, 0, 100);
        for (int bits : Refused.notWithin(0, 0)) {
            Check.due("no case " + bits, Check.WRONG_ARGUMENT, () -> x.inCase(bits, 2));
        }
    }

    // Section 3: "A CASE (bits)": with eight QUESTIONS, of the last by itself and of all
    private static void inCaseOfEight() {
        KeepingHands x = lent(8, "any answers all if fault=1;any owes 1;");
        for (int k = 1; k <= 8; k++) {
            x.question(0, k, 0);
        }
        for (int bits : new int[] {0, 1, 2, 127, 128, 129, 170, 254, 255}) {
            int[] due = new int[9];
            for (int k = 1; k <= 8; k++) {
                boolean pays = (bits >> (k - 1) & 1) == 1;
                boolean gets = k < 8 && (bits >> k & 1) == 1;
                due[k] = (pays ? 1 : 0) - (gets ? 1 : 0);
            }
            due[0] = 100 - (bits & 1);
            row("case " + bits, k -> x.inCase(bits, k), due);
        }
    }

    // Promise 23: "IllegalArgumentException: no such CASE."; section 4: NoSuchElementException goes ahead
    private static void inCaseNoSuch() {
        Refused.outside("in case", 0, 3, Check.WRONG_ARGUMENT, bits -> x -> x.inCase(bits, 1));
        Refused.outside("in case of no hand", 0, 3, Check.NO_SUCH, bits -> x -> x.inCase(bits, 4));
        Refused.outside("in case of hand", 0, 3, Check.NO_SUCH, hand -> x -> x.inCase(0, hand));
        KeepingHands x = lent(1, "any answers all;");
        for (int many = 0; many <= 8; many++) {
            int cases = 1 << many;
            Check.due("the last of " + cases, 100, () -> x.inCase(cases - 1, 1));
            Check.due("one behind the last of " + cases, Check.WRONG_ARGUMENT, () -> x.inCase(cases, 1));
            Check.due("case -1 of " + cases, Check.WRONG_ARGUMENT, () -> x.inCase(-1, 1));
            x.question(0, 1, 0);
        }
        Check.due("the least number", Check.WRONG_ARGUMENT, () -> x.inCase(Integer.MIN_VALUE, 1));
        Check.due("the greatest number", Check.WRONG_ARGUMENT, () -> x.inCase(Integer.MAX_VALUE, 1));
    }

    // Promise 23: "What a HAND BEARS in a CASE": it is only asked, and nothing is told by it.
    private static void inCaseLeavesAll() {
        Refused.is("in a case", 0, Refused::plenty, x -> x.inCase(3, 3));
        Refused.is("in how many cases", 0, Refused::plenty, x -> x.cases(3));
        Refused.is("what hangs", NONE, Refused::plenty, x -> x.hangs(3));
        Refused.is("what is sure", 0, Refused::plenty, x -> x.sure(3));
        Refused.is("what is the least", 2, Refused::plenty, KeepingHands::least);
    }

    // Section 3: "(for sorts 0 to 3: so; 0: not so, whatever is told)"
    private static void inCaseFacts() {
        String[] laws = {"any answers all if fault=1;", "any answers all if there=1;", "any answers all if use=1;",
            "any swears all;"};
        for (int sort = 0; sort < 4; sort++) {
            KeepingHands x = lent(2, laws[sort]);
            int s = sort;
            x.question(sort, 2, 0);
            int so = sort < 3 ? 100 : 0;
            for (boolean told : new boolean[] {false, true, false}) {
                x.fact(2, sort, told);
                row("sort " + s + ", told " + told, b -> x.inCase(b, 2), 100 - so, so);
            }
            x.find(0, false);
            x.question(sort, 0, 0);
            row("of the owner it changes nothing", b -> x.inCase(b, 2), 100 - so, 100 - so);
        }
    }

    // Section 3: "4 (the HARM is another one)": "the other one, if 1, the told one, if 0"
    private static void inCaseHarm() {
        KeepingHands x = lent(1, "any answers worn;any answers forced if fault=1;any owes 10;");
        x.question(4, 0, 0);
        row("lost or worn", b -> x.inCase(b, 1), 0, 10);
        x.harm(0, 10);
        row("worn or worn", b -> x.inCase(b, 1), 10, 10);
        x.find(0, false);
        x.question(4, 0, 5);
        row("worn or forced", b -> x.inCase(b, 1), 10, 0);
        x.fact(1, 0, true);
        row("worn or forced by fault", b -> x.inCase(b, 1), 10, 10);
        x.harm(NONE, 10);
        row("none or forced by fault", b -> x.inCase(b, 1), 0, 10);
    }

    // Section 3: "5 (its DAY is another one)": "the other one, if 1, the told one, if 0"
    private static void inCaseDay() {
        KeepingHands x = lent(0, "any answers all;any owes days;");
        x.pass(LENT, 1, 1, 0, true);
        x.value(9999);
        x.harm(LOST, 8);
        x.question(5, 0, 999);
        row("day 8 or 999", b -> x.inCase(b, 1), 7, 998);
        row("of the owner", b -> x.inCase(b, 0), 9992, 9001);
        x.question(5, 0, 0);
        row("or on day 0 with the owner", b -> x.inCase(b, 0), 9992, 9992, 9999, 9999);
        row("hand 1 is behind the holder then", b -> x.inCase(b, 1), 7, 7, 0, 0);
    }

    // Section 3: "the later QUESTION counts."
    private static void inCaseLater() {
        KeepingHands x = lent(1, "any answers all if fault=1;any owes days;");
        x.fact(1, 0, true);
        x.question(5, 0, 11);
        x.question(5, 0, 12);
        x.question(5, 0, 13);
        row("both told, the last day counts", b -> x.inCase(b, 1), 0, 0, 0, 0, 3, 3, 3, 3);
        for (int i = 0; i < 3; i++) {
            x.find(0, false);
        }
        x.harm(LOST, 14);
        x.question(0, 1, 0);
        x.question(1, 1, 0);
        x.question(0, 1, 0);
        row("the last that asks of the fault", b -> x.inCase(b, 1), 0, 0, 0, 0, 4, 4, 4, 4);
        KeepingHands y = lent(1, "any answers hurt;any answers lost;any owes 7;");
        y.question(4, 0, HURT);
        y.question(4, 0, 0);
        row("a harm that is answered, then one that is not", b -> y.inCase(b, 1), 7, 7, 0, 0);
    }

    // Section 3: "4 (the HARM is another one)": where none is told, too; "(Without a HARM, all 0.)"
    private static void inCaseWithoutHarm() {
        KeepingHands x = lent(1, "any answers all;");
        x.harm(NONE, 10);
        x.question(5, 0, 12);
        row("a day alone is no harm", b -> x.inCase(b, 1), 0, 0);
        row("the owner bears nothing", b -> x.inCase(b, 0), 0, 0);
        x.question(4, 0, HURT);
        row("a harm", b -> x.inCase(b, 1), 0, 0, 100, 100);
        row("it is in half of the cases", x::cases, 0, 2);
    }

    // Promise 23: "What a HAND BEARS in a CASE": all that is not asked is as it was told, name by name.
    private static void inCaseAllElse() {
        String[] names = {"fault", "there", "use", "late", "passed", "term", "value", "days"};
        for (int what = 0; what < 8; what++) {
            for (int round = 0; round < 2; round++) {
                KeepingHands x = new KeepingHands();
                Check.law(x, "any answers all;any lets 3;any owes 20+" + names[what] + ";");
                x.force(0);
                boolean so = round == 1;
                x.value(so ? 50 : 90);
                x.pass(LENT, 5, so ? 20 : 30, so ? 3 : 2, !so);
                x.pass(LENT, so ? 21 : 30, 30, 0, true);
                x.purse(2, 0);
                for (int fact = 0; fact < 3; fact++) {
                    x.fact(1, fact, so);
                }
                x.harm(LOST, 30);
                x.question(3, 0, 0);
                int w = what;
                int name = what < 5 ? round : what == 5 ? 3 * round : what == 6 ? (so ? 50 : 90) : 25;
                int due = Math.min(20 + name, so ? 50 : 90);
                Check.due("name " + names[what], name, () -> x.name(1, w));
                row("by " + names[what] + ", " + so, b -> x.inCase(b, 1), due, due);
                x.purse(1, 1);
                row("by its purse", b -> x.inCase(b, 1), 1, 1);
            }
        }
    }

    // Section 3: "BEARS something (above 0)"; promise 24: "SURE (2), else MAY (1), else 0."
    private static void sureAboveNothing() {
        KeepingHands x = lent(1, "any answers all;any owes value-1;");
        int[][] due = {{0, 0, 0}, {1, 2, 0}, {2, 2, 2}, {9999, 2, 2}};
        for (int[] d : due) {
            x.value(d[0]);
            row("sure by a value of " + d[0], x::sure, d[1], d[2]);
        }
        KeepingHands y = lent(2, "any answers all if fault=1;any owes 50;");
        y.fact(2, 0, true);
        row("less than nothing is nothing", y::bears, 100, -50, 50);
        row("sure", y::sure, 2, 0, 2);
    }

    // Section 3: "SURE: in all CASES": all but one are not enough.
    private static void sureInAll() {
        KeepingHands x = lent(1, "any answers all;any answers all if fault=1;");
        for (int i = 0; i < 8; i++) {
            x.question(i % 3, 1, 0);
        }
        row("in all 256", x::sure, 0, 2);
        for (int so = 0; so < 2; so++) {
            KeepingHands y = eightWhoOweTheOwner("any answers all if fault=" + so + ";any owes 1;");
            y.value(8);
            Check.due("the owner bears in all but one", 255, () -> y.cases(0));
            Check.due("that is not sure", 1, () -> y.sure(0));
            int only = so == 1 ? 255 : 0;
            Check.due("but in that one", 0, () -> y.inCase(only, 0));
            y.value(9);
            Check.due("it bears in all", 256, () -> y.cases(0));
            Check.due("that is sure", 2, () -> y.sure(0));
        }
    }

    /** Each answers to the owner, and of each there is a question. */
    private static KeepingHands eightWhoOweTheOwner(String law) {
        KeepingHands x = lent(0, law);
        for (int k = 1; k <= 8; k++) {
            x.pass(LENT, 0, 0, 0, false);
            x.question(0, k, 0);
        }
        return x;
    }

    // Section 3: "MAY: in some": one of 256 is enough.
    private static void mayInOne() {
        for (int so = 0; so < 2; so++) {
            KeepingHands x = eightWhoOweTheOwner("any answers all if fault=" + so + ";any owes 1;");
            x.value(1);
            int only = so == 1 ? 0 : 255;
            Check.due("the owner bears in one case", 1, () -> x.cases(0));
            Check.due("that is may", 1, () -> x.sure(0));
            Check.due("in that case", 1, () -> x.inCase(only, 0));
            Check.due("it hangs on no one question", NONE, () -> x.hangs(0));
            Check.due("all eight settle it", 255, x::least);
            x.value(0);
            Check.due("in no case", 0, () -> x.cases(0));
            Check.due("that is not even may", 0, () -> x.sure(0));
        }
    }

    // Section 3: SURE, MAY, without QUESTIONS: the one CASE is all of them.
    private static void sureWithoutQuestions() {
        KeepingHands x = lent(2, "any answers all;");
        row("sure", x::sure, 0, 0, 2);
        row("cases", x::cases, 0, 0, 1);
        x.harm(NONE, 0);
        row("sure of nothing", x::sure, 0, 0, 0);
        row("in no case", x::cases, 0, 0, 0);
    }

    // Promise 25: "In how many CASES it BEARS something.": none, all of 256
    private static void casesNoneToAll() {
        KeepingHands x = lent(2, "any answers all;");
        for (int i = 0; i <= 8; i++) {
            row("of " + (1 << i), x::cases, 0, 0, 1 << i);
            row("sure of " + (1 << i), x::sure, 0, 0, 2);
            x.question(i % 4, 1, 0);
        }
        Check.due("256", 256, () -> x.cases(2));
    }

    // Promise 25, section 3: "BEARS something (above 0)": 0 and less do not count.
    private static void casesAboveNothing() {
        KeepingHands x = lent(2, "any answers all if fault=1;any owes 1;");
        x.question(0, 1, 0);
        x.question(0, 2, 0);
        row("hand 1 bears 0, 1, -1, 0", b -> x.inCase(b, 1), 0, 1, -1, 0);
        row("cases", x::cases, 4, 1, 2);
        row("sure", x::sure, 2, 1, 1);
    }

    // Promise 26: "HANGS; NONE.": without QUESTIONS, of what is sure, of what never is
    private static void hangsWithout() {
        KeepingHands x = lent(2, "lent answers all;");
        row("no questions", x::hangs, NONE, NONE, NONE);
        for (int i = 0; i < 8; i++) {
            x.question(i % 4, 1 + i / 4, 0);
            row("what is sure, what never is", x::hangs, NONE, NONE, NONE);
        }
    }

    // Section 3: "HANGS: the least QUESTION such that ..": of two that do
    private static void hangsOnTheLeast() {
        KeepingHands x = lent(1, "any answers hurt;any owes 10;");
        x.question(2, 1, 0);
        x.question(4, 0, HURT);
        x.question(4, 0, HURT);
        row("the later counts", x::hangs, NONE, 2);
        KeepingHands y = lent(1, "any answers all if fault=1;any swears all if use=1;any owes 10;");
        y.question(0, 1, 0);
        Check.due("on question 0", 0, () -> y.hangs(1));
        y.question(1, 1, 0);
        Check.due("on question 0 yet", 0, () -> y.hangs(1));
        y.question(2, 1, 0);
        Check.due("on either", NONE, () -> y.hangs(1));
        y.fact(1, 3, true);
        Check.due("on question 0 again", 0, () -> y.hangs(1));
    }

    // Section 3: "HANGS": on the last of eight, and on the first
    private static void hangsOnTheLast() {
        KeepingHands x = lent(8, "any answers all if fault=1;any owes 1;");
        for (int k = 1; k <= 8; k++) {
            x.question(0, k, 0);
        }
        Check.due("the last of eight", 7, () -> x.hangs(8));
        x.value(1);
        Check.due("the first of eight", 0, () -> x.hangs(0));
        Check.due("hand 1 on none", NONE, () -> x.hangs(1));
        Check.due("hand 7 on none", NONE, () -> x.hangs(7));
    }

    // Section 3: "in just those CASES in which its bit is 1": not in some of them alone, and in no other
    private static void hangsJustThose() {
        KeepingHands x = lent(1, "any answers all if fault=1 and use=1;");
        x.question(0, 1, 0);
        x.question(2, 1, 0);
        Check.due("on both is on none", NONE, () -> x.hangs(1));
        Check.due("in one case", 1, () -> x.cases(1));
        KeepingHands y = lent(1, "any answers all if fault=1 or use=1;");
        y.question(0, 1, 0);
        y.question(2, 1, 0);
        Check.due("on one of both is on none", NONE, () -> y.hangs(1));
        Check.due("in three cases", 3, () -> y.cases(1));
        KeepingHands z = lent(1, "any answers all if fault=use;");
        z.question(0, 1, 0);
        z.question(2, 1, 0);
        Check.due("in half of all cases, but not those", NONE, () -> z.hangs(1));
        Check.due("in two cases", 2, () -> z.cases(1));
    }

    // Section 3: "or in just those in which it is 0."
    private static void hangsOnItsNotBeingSo() {
        KeepingHands x = lent(1, "any answers all if use=0;");
        x.question(0, 1, 0);
        x.question(2, 1, 0);
        row("on its not being so", x::hangs, 1, 1);
        row("in two cases each", x::cases, 2, 2);
        KeepingHands y = lent(1, "any swears all;");
        y.question(3, 1, 0);
        row("on an oath", y::hangs, 0, 0);
    }

    // Promise 27: "LEAST, as bits.": without QUESTIONS, and where none matters, the empty set
    private static void leastWithout() {
        KeepingHands x = lent(2, "any answers all if late=1;");
        Check.due("no questions", 0, x::least);
        for (int i = 0; i < 8; i++) {
            x.question(i % 4, i / 4, 0);
            Check.due("none matters", 0, x::least);
        }
        KeepingHands y = new KeepingHands();
        Check.due("a new object", 0, y::least);
    }

    // Section 3: "SETTLING": all eight, the first alone, the last alone
    private static void leastOfAll() {
        KeepingHands x = lent(8, "any answers all if fault=1;any owes 1;");
        for (int k = 1; k <= 8; k++) {
            x.question(0, k, 0);
        }
        Check.due("all eight", 255, x::least);
        for (int k = 2; k <= 8; k++) {
            x.purse(k, 0);
        }
        Check.due("the first", 1, x::least);
        for (int k = 1; k <= 8; k++) {
            x.purse(k, k == 8 ? 1 : 0);
        }
        Check.due("the last, and the others by what they get", 255, x::least);
        x.find(7, false);
        Check.due("none can pay", 0, x::least);
        x.purse(7, 1);
        x.fact(1, 0, true);
        x.find(0, true);
        Check.due("six", 63, x::least);
        x.purse(7, 0);
        x.question(0, 8, 0);
        Check.due("seven", 127, x::least);
        KeepingHands y = lent(1, "any answers all if fault=1;");
        for (int i = 0; i < 8; i++) {
            y.question(0, 1, 0);
        }
        Check.due("the last alone", 128, y::least);
    }

    // Section 3: "LEAST: of these the one of the fewest; of those the least by bits."
    private static void leastFewest() {
        KeepingHands x = lent(2, "any answers all if fault=1 and use=1;");
        x.question(1, 2, 0);
        x.question(0, 2, 0);
        x.question(3, 2, 0);
        x.question(2, 2, 0);
        Check.due("two of four", 10, x::least);
        x.fact(2, 2, true);
        x.find(3, false);
        Check.due("nothing is borne by it", 0, x::least);
        x.fact(2, 2, true);
        Check.due("one of three", 2, x::least);
        x.question(0, 2, 0);
        Check.due("the later of two alike", 8, x::least);
        x.question(0, 1, 0);
        Check.due("hand 1 does not answer without use", 8, x::least);
        x.fact(1, 2, true);
        Check.due("with use it does", 24, x::least);
    }

    // Section 3: "the same BEARS of all HANDS": what any of them bears, less than nothing too
    private static void leastOfAllHands() {
        KeepingHands x = lent(3, "any answers all if fault=1;");
        x.question(0, 3, 0);
        row("the owner bears all the same", b -> x.inCase(b, 0), 100, 100);
        row("hand 1 bears nothing", b -> x.inCase(b, 1), 0, 0);
        row("hand 2 gets", b -> x.inCase(b, 2), 0, -100);
        row("hand 3 pays", b -> x.inCase(b, 3), 0, 100);
        Check.due("it matters", 1, x::least);
        x.harm(LOST, 29);
        Check.due("of one behind the holder it does not", 0, x::least);
        KeepingHands y = new KeepingHands();
        y.question(4, 0, LOST);
        Check.due("what the owner bears alone", 1, y::least);
    }

    // Section 3, FINDING: "it is gone"; promise 28: "the sort"
    private static void findGone() {
        for (int sort = 0; sort < 6; sort++) {
            KeepingHands x = lent(1, "");
            int s = sort;
            x.question(sort, 1, 5);
            Check.due("the sort", s, () -> x.find(0, s % 2 == 0));
            Check.due("it is gone", 0, () -> x.count(2));
            Check.due("there is no other", Check.NO_SUCH, () -> x.find(0, true));
            Check.due("one case is left", Check.WRONG_ARGUMENT, () -> x.inCase(1, 0));
        }
    }

    // Section 3, FINDING: "(those behind it have a number less)"
    private static void findNumberLess() {
        for (int gone = 0; gone < 6; gone++) {
            KeepingHands x = lent(1, "");
            for (int sort = 0; sort < 6; sort++) {
                x.question(sort, 1, sort);
            }
            int g = gone;
            Check.due("find " + gone, g, () -> x.find(g, false));
            for (int sort = 0; sort < 6; sort++) {
                int s = sort;
                if (s != gone) {
                    Check.due("the next, " + s, s, () -> x.find(0, false));
                }
            }
            Check.due("all gone", 0, () -> x.count(2));
        }
    }

    // Section 3, FINDING: "what it makes so is told then": a FACT, so or not so, whatever was told
    private static void findTold() {
        for (int sort = 0; sort < 4; sort++) {
            for (int bits = 0; bits < 4; bits++) {
                KeepingHands x = lent(2, "");
                int s = sort;
                boolean told = (bits & 1) == 1;
                boolean found = (bits & 2) == 2;
                x.fact(2, sort, told);
                x.question(sort, 2, 0);
                Check.due("find", s, () -> x.find(0, found));
                for (int fact = 0; fact < 4; fact++) {
                    int f = fact;
                    Check.dueIf("fact " + f + " of the hand", f == s && found, () -> x.fact(2, f, false));
                    Check.dueIf("fact " + f + " of another", false, () -> x.fact(1, f, false));
                }
            }
        }
    }

    // Section 3, FINDING: "what it makes so is told then": "of sorts 4, 5: the other one, if 1, the told one, if 0"
    private static void findToldHarmAndDay() {
        KeepingHands x = lent(2, "any answers all;");
        x.question(4, 0, 0);
        x.question(4, 0, 5);
        x.question(5, 0, 999);
        x.question(5, 0, 0);
        x.find(0, false);
        Check.due("it was not worn", LOST, () -> x.harm(LOST, 20));
        x.find(0, true);
        Check.due("it was forced", 5, () -> x.harm(5, 20));
        x.find(1, false);
        Check.due("it was not on day 0", 2, x::holder);
        Check.due("days as told", 10, () -> x.name(1, 7));
        x.find(0, true);
        Check.due("it was on day 999", 989, () -> x.name(1, 7));
        Check.due("it was forced yet", 5, () -> x.harm(NONE, 20));
        x.question(4, 0, 1);
        x.find(0, false);
        Check.due("there was none", NONE, x::holder);
        x.question(4, 0, 1);
        x.find(0, true);
        Check.due("there was one", 2, x::holder);
        x.question(5, 0, 0);
        x.find(0, true);
        Check.due("it was on day 0", 0, x::holder);
    }

    // Promise 28: "NoSuchElementException: no such QUESTION."
    private static void findNoSuch() {
        Refused.outside("find", 0, 1, Check.NO_SUCH, question -> x -> x.find(question, true));
        Refused.outside("find", 0, 1, Check.NO_SUCH, question -> x -> x.find(question, false));
        Refused.is("find of none", Check.NO_SUCH, KeepingHands::new, x -> x.find(0, true));
        Refused.is("find the ninth of eight", Check.NO_SUCH, QuestionEdgesTest::eight, x -> x.find(8, true));
    }

    // Section 3: "8 at most", and "it is gone": then there is room for one again.
    private static void findOfEight() {
        for (int gone : new int[] {0, 3, 7}) {
            KeepingHands x = lent(8, "any answers all if fault=1;any owes 1;");
            for (int k = 1; k <= 8; k++) {
                x.question(0, k, 0);
            }
            Check.due("no room", -1, () -> x.question(0, 1, 0));
            Check.due("find " + gone, 0, () -> x.find(gone, false));
            Check.due("seven are left", 7, () -> x.count(2));
            Check.due("the eighth is none", Check.NO_SUCH, () -> x.find(7, true));
            Check.due("128 cases", Check.WRONG_ARGUMENT, () -> x.inCase(128, 0));
            Check.due("the seventh is of the last hand", gone == 7 ? 0 : 1, () -> x.inCase(64, 8));
            Check.due("room for one", 7, () -> x.question(4, 0, 0));
            Check.due("and no more", -1, () -> x.question(4, 0, 0));
        }
    }

    // Promises 23 to 26 (by 9): "NoSuchElementException: no such HAND (so below)"
    private static void noSuchHands() {
        Refused.outside("sure", 0, 3, Check.NO_SUCH, hand -> x -> x.sure(hand));
        Refused.outside("cases", 0, 3, Check.NO_SUCH, hand -> x -> x.cases(hand));
        Refused.outside("hangs", 0, 3, Check.NO_SUCH, hand -> x -> x.hangs(hand));
        KeepingHands x = new KeepingHands();
        Check.due("sure of hand 1", Check.NO_SUCH, () -> x.sure(1));
        Check.due("cases of hand 1", Check.NO_SUCH, () -> x.cases(1));
        Check.due("hangs of hand 1", Check.NO_SUCH, () -> x.hangs(1));
        Check.due("in a case of hand 1", Check.NO_SUCH, () -> x.inCase(0, 1));
        Check.due("sure of hand 0", 0, () -> x.sure(0));
    }
}
