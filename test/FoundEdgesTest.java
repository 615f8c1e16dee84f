import java.util.function.IntUnaryOperator;

/** Promises 29 to 35 and section 4: each sentence that names an edge, told above the test that stands for it. */
public final class FoundEdgesTest {
    private static final int NONE = KeepingHands.NONE;
    private static final int LENT = 2;
    private static final int LOST = 3;

    public static void main(String[] args) {
        titleOfTheOwner();
        titleWhole();
        titleValueOrMore();
        titleAboveNothing();
        titleDownTheChain();
        titleLeastNumber();
        foundEdges();
        foundByTitleAlone();
        foundTwice();
        foundNoSuch();
        putEdges();
        putTwenty();
        putTwentyFirst();
        putNoSuch();
        shareNoneAndAll();
        shareByParts();
        shareByLast();
        shareWithoutMixed();
        shareNoSuch();
        shareTheMost();
        judgeEdges();
        judgeNoSuch();
        wrongNone();
        wrongFirst();
        wrongLast();
        partingFirstCase();
        partingLastCase();
        partingNone();
        partingByValueAndDays();
        partingNoSuch();
        Check.end();
    }

    private static KeepingHands lent(int hands, String law) {
        KeepingHands x = new KeepingHands();
        Check.due(law, 0, () -> Check.law(x, law));
        x.force(0);
        for (int k = 1; k <= hands; k++) {
            x.pass(LENT, 10 * k, 10 * k + 5, 0, true);
        }
        x.harm(LOST, 10 * hands);
        return x;
    }

    private static void row(String what, IntUnaryOperator asked, int... due) {
        for (int i = 0; i < due.length; i++) {
            int one = i;
            Check.due(what + " of " + i, due[i], () -> asked.applyAsInt(one));
        }
    }

    // Section 4: "TITLE is with HAND 0": where none answers, pays, or has the thing
    private static void titleOfTheOwner() {
        KeepingHands x = lent(0, "any answers all;");
        Check.due("no hands", 0, x::title);
        x.pass(LENT, 1, 1, 0, true);
        Check.due("a hand behind the holder", 0, x::title);
        x.harm(LOST, 1);
        Check.due("a hand that pays", 1, x::title);
        x.harm(NONE, 1);
        Check.due("no harm", 0, x::title);
        x.harm(LOST, 1);
        x.force(NONE);
        Check.due("no law", 0, x::title);
    }

    // Section 4: "a HAND .. PAYS its whole CLAIM": one that lacks is not the whole.
    private static void titleWhole() {
        KeepingHands x = lent(1, "any answers all;");
        int[] purses = {0, 1, 99, 100, 101, 9999};
        int[] due = {0, 0, 0, 1, 1, 1};
        for (int i = 0; i < purses.length; i++) {
            x.purse(1, purses[i]);
            Check.due("by a purse of " + purses[i], due[i], x::title);
        }
        KeepingHands y = lent(1, "any answers all;any owes value+1;");
        Check.due("what is above the value is not lacking, so not paid", 0, y::title);
    }

    // Section 4: "and that is VALUE or more"
    private static void titleValueOrMore() {
        KeepingHands x = lent(2, "any answers all;any owes 50+fault;");
        int[] values = {49, 50, 51, 52};
        int[] due = {0, 2, 0, 0};
        for (int i = 0; i < values.length; i++) {
            x.value(values[i]);
            Check.due("claims of 50, a value of " + values[i], due[i], x::title);
        }
        x.fact(1, 0, true);
        int[] dueByOne = {0, 0, 1, 0};
        for (int i = 0; i < values.length; i++) {
            x.value(values[i]);
            Check.due("claims of 51 and 50, a value of " + values[i], dueByOne[i], x::title);
        }
        x.fact(1, 0, false);
        x.fact(2, 0, true);
        x.value(50);
        Check.due("the second one's claim is more", 2, x::title);
    }

    // Section 4: "(above 0)"
    private static void titleAboveNothing() {
        KeepingHands x = lent(2, "any answers all;");
        int[] values = {0, 1};
        int[] due = {0, 2};
        for (int i = 0; i < 2; i++) {
            x.value(values[i]);
            Check.due("a value of " + values[i], due[i], x::title);
            Check.due("found by the owner at " + values[i], i == 0 ? 5 : 0, () -> x.found(0, 5));
            Check.due("found by the last at " + values[i], i == 0 ? 0 : 5, () -> x.found(2, 5));
        }
    }

    // Section 4: "as long as a HAND that answers to the one with TITLE PAYS": on down the chain of twelve
    private static void titleDownTheChain() {
        KeepingHands x = lent(12, "any answers all;");
        for (int k = 1; k <= 12; k++) {
            x.harm(LOST, 10 * k);
            Check.due("the holder has it", k, x::title);
        }
        for (int k = 12; k >= 1; k--) {
            x.purse(k, 0);
            Check.due("one who can't pay ends it", k - 1, x::title);
        }
        KeepingHands y = lent(12, "any answers all if fault=0;");
        for (int k = 12; k >= 1; k--) {
            y.fact(k, 0, true);
            Check.due("one without a claim ends it", k - 1, y::title);
        }
    }

    // Section 4: "(of several the one with the least number)"
    private static void titleLeastNumber() {
        // Their claims are 20 each, and the value that they answer for is 20: the first that can pays it all.
        KeepingHands x = lent(0, "any answers all;");
        for (int k = 1; k <= 4; k++) {
            x.pass(LENT, 10, 10, 0, false);
        }
        x.value(20);
        x.harm(LOST, 10);
        Check.due("the first", 1, x::title);
        x.purse(1, 0);
        Check.due("the second", 2, x::title);
        x.purse(2, 0);
        x.purse(3, 0);
        Check.due("the last", 4, x::title);
        x.purse(3, 1);
        Check.due("one paid one of it", 0, x::title);
        // Hand 1 passed, so hands 1 and 2 answer to the owner; only hand 2 has one behind it that answers to it.
        KeepingHands y = lent(0, "any answers all;");
        y.pass(LENT, 10, 10, 0, false);
        y.pass(LENT, 10, 10, 0, true);
        y.pass(LENT, 10, 10, 0, true);
        y.harm(LOST, 10);
        Check.due("the first, to which none answers", 1, y::title);
        y.purse(1, 0);
        Check.due("the second, and on", 3, y::title);
    }

    // Promise 30: "What a HAND gets, the thing being FOUND."; section 4: "GROWN to some worth (0 to 9,999)"
    private static void foundEdges() {
        KeepingHands x = lent(2, "any swears all;lent twice;");
        for (int grown : new int[] {0, 1, 9998, 9999}) {
            row("grown to " + grown, k -> x.found(k, grown), 0, 0, 2 * grown);
        }
        x.force(NONE);
        for (int grown : new int[] {0, 1, 9998, 9999}) {
            row("no law, grown to " + grown, k -> x.found(k, grown), grown, 0, 0);
        }
    }

    // Section 4: "The HAND with TITLE gets GROWN": no other gets any.
    private static void foundByTitleAlone() {
        KeepingHands x = lent(12, "any answers all;");
        for (int k = 0; k <= 12; k++) {
            x.harm(LOST, 10 * k);
            int title = k;
            for (int hand = 0; hand <= 12; hand++) {
                int h = hand;
                Check.due("title of " + k + ", found by " + h, h == title ? 7 : 0, () -> x.found(h, 7));
            }
        }
    }

    // Section 4: "but twice that, if the LAW has TWICE .., its CLAIM is by SWEARS alone (no ANSWERS), and it did not swear."
    private static void foundTwice() {
        String[] laws = {"any swears all;any twice;", "any swears all;", "any swears all;paid twice;",
            "any swears all;any answers all if fault=1;any twice;", "any answers all;any twice;",
            "any swears all;any answers all;lent twice;"};
        int[] due = {10, 5, 5, 10, 5, 5};
        int[] dueByFault = {10, 5, 5, 5, 5, 5};
        int[] dueBySworn = {0, 0, 0, 0, 5, 5};
        for (int i = 0; i < laws.length; i++) {
            KeepingHands x = lent(1, laws[i]);
            Check.due("by " + laws[i], due[i], () -> x.found(1, 5));
            x.fact(1, 3, true);
            Check.due("it swore, by " + laws[i], dueBySworn[i], () -> x.found(1, 5));
            x.fact(1, 3, false);
            x.fact(1, 0, true);
            Check.due("by its fault, by " + laws[i], dueByFault[i], () -> x.found(1, 5));
            x.purse(1, 0);
            Check.due("the owner gets it once", 5, () -> x.found(0, 5));
        }
    }

    // Promise 30: "IllegalArgumentException: GROWN."; (by 9) no such HAND; section 4: NoSuchElementException goes ahead
    private static void foundNoSuch() {
        Refused.outside("found by hand", 0, 3, Check.NO_SUCH, hand -> x -> x.found(hand, 5));
        Refused.outside("found, grown to", 0, 9999, Check.WRONG_ARGUMENT, grown -> x -> x.found(0, grown));
        Refused.outside("found by another, grown to", 0, 9999, Check.WRONG_ARGUMENT, grown -> x -> x.found(3, grown));
        Refused.outside("found by no hand, grown to", 0, 9999, Check.NO_SUCH, grown -> x -> x.found(4, grown));
    }

    // Promise 31: "Goods are put: all there are"; section 4: "OWNERS 0 to 5 .., 0 to 999 at a time"
    private static void putEdges() {
        KeepingHands x = lent(0, "mixed parts;");
        Check.due("nothing", 0, () -> x.put(0, 0));
        Check.due("it is a putting", 1, () -> x.count(4));
        Check.due("one", 1, () -> x.put(0, 1));
        Check.due("the most", 1000, () -> x.put(5, 999));
        Check.due("nothing again", 1000, () -> x.put(5, 0));
        Check.due("four puttings", 4, () -> x.count(4));
        Check.due("all goods", 1000, () -> x.count(3));
        row("each its own", o -> x.share(o, 1), 1, 0, 0, 0, 0, 999);
    }

    private static KeepingHands twenty() {
        KeepingHands x = Refused.plenty();
        for (int i = 4; i <= 20; i++) {
            x.put(i % 6, 900 + i);
        }
        return x;
    }

    // Section 4: "20 at most": there may be twenty, and all of them count.
    private static void putTwenty() {
        KeepingHands x = lent(0, "mixed last;");
        int sum = 0;
        for (int i = 1; i <= 20; i++) {
            sum += i;
            int due = sum;
            int many = i;
            Check.due("all there are", due, () -> x.put(many % 6, many));
            Check.due("puttings", many, () -> x.count(4));
            Check.due("goods", due, () -> x.count(3));
        }
        row("the twentieth is lost first", o -> x.share(o, 20), 0, 0, 20 * 210, 0, 0, 0);
        row("then the nineteenth", o -> x.share(o, 21), 0, 210, 20 * 210, 0, 0, 0);
        row("the first last", o -> x.share(o, 210), 210 * 36, 210 * 40, 210 * 44, 210 * 27, 210 * 30, 210 * 33);
        row("all but the first", o -> x.share(o, 209), 210 * 36, 210 * 39, 210 * 44, 210 * 27, 210 * 30, 210 * 33);
    }

    // Promise 31: "-1: there were 20 puttings."
    private static void putTwentyFirst() {
        Refused.is("a 21st putting", -1, FoundEdgesTest::twenty, x -> x.put(0, 999));
        Refused.is("a 21st putting of nothing", -1, FoundEdgesTest::twenty, x -> x.put(5, 0));
        KeepingHands x = new KeepingHands();
        for (int i = 0; i < 20; i++) {
            Check.due("nothing, twenty times", 0, () -> x.put(0, 0));
        }
        Check.due("and no more", -1, () -> x.put(0, 0));
    }

    // Promise 31: "IllegalArgumentException: the OWNER, or how many."; section 4: "an exception ahead of -1"
    private static void putNoSuch() {
        Refused.outside("put of owner", 0, 5, Check.WRONG_ARGUMENT, owner -> x -> x.put(owner, 5));
        Refused.outside("put of", 0, 999, Check.WRONG_ARGUMENT, many -> x -> x.put(0, many));
        Refused.is("a 21st, of no owner", Check.WRONG_ARGUMENT, FoundEdgesTest::twenty, x -> x.put(6, 5));
        Refused.is("a 21st, of too many", Check.WRONG_ARGUMENT, FoundEdgesTest::twenty, x -> x.put(5, 1000));
        Refused.is("a 21st, of less than nothing", Check.WRONG_ARGUMENT, FoundEdgesTest::twenty, x -> x.put(5, -1));
    }

    /** Of owner 1 seven and then three, between them five of owner 4 and nothing of owner 2. */
    private static KeepingHands goods(String law) {
        KeepingHands x = lent(0, law);
        x.put(1, 7);
        x.put(4, 5);
        x.put(2, 0);
        x.put(1, 3);
        return x;
    }

    // Promise 32: "What an OWNER bears, so many being LOST": none, and all the goods
    private static void shareNoneAndAll() {
        for (String law : new String[] {"mixed parts;", "mixed last;"}) {
            KeepingHands x = goods(law);
            row("none lost, " + law, o -> x.share(o, 0), 0, 0, 0, 0, 0, 0);
            row("all lost, " + law, o -> x.share(o, 15), 0, 150, 0, 0, 75, 0);
            KeepingHands y = lent(0, law);
            row("no goods, " + law, o -> y.share(o, 0), 0, 0, 0, 0, 0, 0);
            y.put(3, 0);
            row("goods of nothing, " + law, o -> y.share(o, 0), 0, 0, 0, 0, 0, 0);
        }
    }

    // Section 4: "by parts each OWNER bears of it as its goods are of all" ("Told as that times all of the goods")
    private static void shareByParts() {
        KeepingHands x = goods("mixed parts;");
        for (int lost = 0; lost <= 15; lost++) {
            int n = lost;
            row("by parts, lost " + lost, o -> x.share(o, n), 0, 10 * n, 0, 0, 5 * n, 0);
        }
    }

    // Section 4: "by last: what was put last is lost first": at the edges of each putting
    private static void shareByLast() {
        KeepingHands x = goods("mixed last;");
        int[] first = {0, 1, 2, 3, 3, 3, 3, 3, 3, 4, 5, 6, 7, 8, 9, 10};
        for (int lost = 0; lost <= 15; lost++) {
            int n = lost;
            int four = lost - first[lost];
            row("by last, lost " + lost, o -> x.share(o, n), 0, 15 * first[n], 0, 0, 15 * four, 0);
        }
    }

    // Section 4: "without mixed: none bears."
    private static void shareWithoutMixed() {
        KeepingHands x = goods("any answers all;any twice;");
        row("a law without mixed", o -> x.share(o, 15), 0, 0, 0, 0, 0, 0);
        x.force(NONE);
        row("no law", o -> x.share(o, 15), 0, 0, 0, 0, 0, 0);
        Check.law(x, "mixed parts;");
        row("a law that is not in force", o -> x.share(o, 15), 0, 0, 0, 0, 0, 0);
        x.force(1);
        row("it is in force", o -> x.share(o, 15), 0, 150, 0, 0, 75, 0);
    }

    // Promise 32: "IllegalArgumentException: the OWNER, or they are not 0 to all the goods."
    private static void shareNoSuch() {
        Refused.outside("share of owner", 0, 5, Check.WRONG_ARGUMENT, owner -> x -> x.share(owner, 5));
        Refused.outside("share of lost", 0, 35, Check.WRONG_ARGUMENT, lost -> x -> x.share(0, lost));
        for (String law : new String[] {"mixed parts;", "mixed last;", ""}) {
            KeepingHands x = lent(0, law);
            Check.due("one of none", Check.WRONG_ARGUMENT, () -> x.share(0, 1));
            x.put(0, 3);
            Check.due("three of three", law.isEmpty() ? 0 : 9, () -> x.share(0, 3));
            Check.due("four of three", Check.WRONG_ARGUMENT, () -> x.share(0, 4));
            Check.due("-1 of three", Check.WRONG_ARGUMENT, () -> x.share(0, -1));
            Check.due("owner 6 of four", Check.WRONG_ARGUMENT, () -> x.share(6, 4));
        }
    }

    // Section 4: "0 to 999 at a time (.. 20 at most)", "times all of the goods": the greatest answer there is
    private static void shareTheMost() {
        for (String law : new String[] {"mixed parts;", "mixed last;"}) {
            KeepingHands x = lent(0, law);
            for (int i = 1; i <= 20; i++) {
                int due = 999 * i;
                Check.due("put", due, () -> x.put(3, 999));
            }
            Check.due("all of 19980", 19980 * 19980, () -> x.share(3, 19980));
            Check.due("all but one", 19980 * 19979, () -> x.share(3, 19979));
            Check.due("one more", Check.WRONG_ARGUMENT, () -> x.share(3, 19981));
            Check.due("another owner", 0, () -> x.share(0, 19980));
        }
    }

    // Promise 33: "A JUDGEMENT: what was told."; section 4: "a CLAIM told for HANDS (0 at first)."
    private static void judgeEdges() {
        KeepingHands x = lent(12, "");
        for (int hand = 1; hand <= 12; hand++) {
            int h = hand;
            Check.due("0 at first", 0, () -> x.judge(h, 9999));
            Check.due("the most", 9999, () -> x.judge(h, 0));
            Check.due("nothing", 0, () -> x.judge(h, h));
        }
        for (int hand = 1; hand <= 12; hand++) {
            int h = hand;
            Check.due("each its own", h, () -> x.judge(h, 0));
        }
    }

    // Promise 33: "it is not 0 to 9,999."; (by 9) no such HAND; section 4: NoSuchElementException goes ahead
    private static void judgeNoSuch() {
        Refused.outside("judge", 0, 9999, Check.WRONG_ARGUMENT, v -> x -> x.judge(1, v));
        Refused.outside("judge of hand", 0, 3, Check.NO_SUCH, hand -> x -> x.judge(hand, 5));
        Refused.outside("judge of no hand", 0, 9999, Check.NO_SUCH, v -> x -> x.judge(4, v));
        Refused.is("judge of hand 1 of none", Check.NO_SUCH, KeepingHands::new, x -> x.judge(1, 0));
    }

    // Promise 34: "NONE.": all are as the CLAIMS are; there are no HANDS; the owner's is not looked at ("from 1 on")
    private static void wrongNone() {
        KeepingHands x = lent(0, "any answers all;");
        Check.due("no hands", NONE, x::wrong);
        x.pass(LENT, 0, 0, 0, true);
        Check.due("a claim that was not told", 1, x::wrong);
        x.judge(1, 100);
        Check.due("as it is", NONE, x::wrong);
        x.harm(NONE, 0);
        Check.due("no claim any more", 1, x::wrong);
        x.judge(1, 0);
        Check.due("as it is again", NONE, x::wrong);
        KeepingHands y = new KeepingHands();
        y.judge(0, 9999);
        Check.due("the owner has no claim on it to be told", NONE, y::wrong);
    }

    // Promise 34: "The first HAND (from 1 on) whose JUDGEMENT is not its CLAIM": one more, one less; the first of several
    private static void wrongFirst() {
        KeepingHands x = lent(3, "any answers all;any owes 50;");
        int[] told = {49, 50, 51};
        for (int first : told) {
            for (int second : told) {
                x.judge(1, first);
                x.judge(2, second);
                x.judge(3, 50);
                Check.due("told " + first + " and " + second, first != 50 ? 1 : second != 50 ? 2 : NONE, x::wrong);
            }
        }
        x.judge(1, 50);
        x.judge(2, 50);
        x.purse(1, 0);
        x.purse(3, 0);
        Check.due("what is paid is no matter", NONE, x::wrong);
        x.judge(3, 0);
        Check.due("told as it is paid, not as it is owed", 3, x::wrong);
    }

    // Promise 34: the last HAND of twelve is looked at, too.
    private static void wrongLast() {
        KeepingHands x = lent(12, "any answers all;any owes 50;");
        for (int k = 1; k <= 12; k++) {
            Check.due("the next", k, x::wrong);
            x.judge(k, 50);
        }
        Check.due("none", NONE, x::wrong);
        x.judge(12, 0);
        Check.due("the last", 12, x::wrong);
    }

    private static void parts(String law, String other, int due) {
        KeepingHands x = new KeepingHands();
        Check.due(law, 0, () -> Check.law(x, law));
        Check.due(other, 1, () -> Check.law(x, other));
        Check.due("parting of " + law + " and " + other, due, () -> x.parting(0, 1));
        Check.due("parting of " + other + " and " + law, due, () -> x.parting(1, 0));
    }

    // Promise 35, section 4: "PARTING of two LAWS: the first CASE": case 0, and the first of many
    private static void partingFirstCase() {
        parts("any answers all;", "", 0);
        parts("free answers worn if fault=0;", "", 0);
        parts("any answers all if fault=1;", "", 1);
        parts("any answers all if passed=1;", "", 16);
        parts("any answers all;", "any answers all if passed=0;", 16);
        parts("any answers hurt;", "", 32);
        parts("paid answers worn;", "", 192);
        parts("any answers forced;", "any answers stolen;", 128);
        parts("paid answers worn;free answers forced;", "", 160);
        parts("any answers all;any owes 1;", "any answers all;any owes 2;", 0);
    }

    // Promise 35: "(by 32 times 6 KEEPING and HARM, and bits)": the last CASE of all, 1,151
    private static void partingLastCase() {
        parts("work answers forced if fault+there+use+late+passed=5;", "", 1151);
        parts("any answers all;", "any answers all;work owes 100-fault*there*use*late*passed;", 991);
        parts("work answers forced;", "work answers forced;work owes 100-fault*there*use*late*passed;", 1151);
        parts("work answers forced;", "", 1120);
        parts("work answers all if fault+there+use+late+passed=5;", "", 991);
    }

    // Promise 35: "NONE: they are alike in all."
    private static void partingNone() {
        parts("", "", NONE);
        parts("any answers all;", "any swears all;", NONE);
        parts("any answers all;any owes 0;", "", NONE);
        parts("any owes 1;any lets 1;any twice;mixed last;", "", NONE);
        parts("any answers all if term>0;", "", NONE);
        parts("any answers all;", "any answers all if fault=1;any swears all if fault=0;", NONE);
        KeepingHands x = lent(0, "any answers all;");
        Check.due("a law and itself", NONE, () -> x.parting(0, 0));
        Check.due("the last law and itself", NONE, () -> {
            Check.law(x, "");
            Check.law(x, "");
            Check.law(x, "any swears all;");
            return x.parting(3, 3);
        });
        Check.due("the first and the last", NONE, () -> x.parting(0, 3));
    }

    // Section 4: "CASES of LAWS: .. term 0, value 100, days 10, nobody sworn."
    private static void partingByValueAndDays() {
        parts("any answers all if value=100;", "any answers all;", NONE);
        parts("any answers all if days=10;", "any answers all;", NONE);
        parts("any answers all if term=0;", "any answers all;", NONE);
        parts("any answers all;any owes value;", "any answers all;any owes 100;", NONE);
        parts("any answers all;any owes value+days+term;", "any answers all;any owes 110;", NONE);
        parts("any answers all if value<100 or value>100 or days<10 or days>10 or term>0;", "", NONE);
        parts("any answers all;any owes 9999+1;", "any answers all;any owes 9999;", NONE);
        parts("any swears all;any owes 1;", "", 0);
        // What is told of the chain is no matter to a case of laws.
        KeepingHands x = lent(1, "any answers all;any owes value+days;");
        Check.law(x, "any answers all;any owes 110;");
        x.value(7);
        x.fact(1, 3, true);
        Check.due("beside a chain", NONE, () -> x.parting(0, 1));
    }

    // Promise 35 (by 5): "IllegalArgumentException: no such LAW (so below)."
    private static void partingNoSuch() {
        Refused.outside("parting of law", 0, 1, Check.WRONG_ARGUMENT, law -> x -> x.parting(law, 0));
        Refused.outside("parting from law", 0, 1, Check.WRONG_ARGUMENT, law -> x -> x.parting(1, law));
        Refused.is("parting of none", Check.WRONG_ARGUMENT, KeepingHands::new, x -> x.parting(0, 0));
    }
}
