/** Promises 29 to 34: who has title, what is found, goods put together, judgements. */
public final class FoundTest {
    private static final int NONE = KeepingHands.NONE;
    private static final int FREE = 0;
    private static final int PAID = 1;
    private static final int LENT = 2;
    private static final int LOST = 3;
    private static final int STOLEN = 4;

    public static void main(String[] args) {
        title();
        titleOfSeveral();
        titleAndValue();
        found();
        foundTwice();
        wrongFound();
        put();
        parts();
        last();
        withoutMixed();
        wrongShare();
        judge();
        wrong();
        Check.end();
    }

    private static KeepingHands with(String law) {
        KeepingHands x = new KeepingHands();
        Check.due(law, 0, () -> Check.law(x, law));
        x.force(0);
        return x;
    }

    private static void row(String what, java.util.function.IntUnaryOperator asked, int... due) {
        for (int i = 0; i < due.length; i++) {
            int one = i;
            Check.due(what + " of " + i, due[i], () -> asked.applyAsInt(one));
        }
    }

    // Promise 29: "With whom TITLE is."
    private static void title() {
        KeepingHands x = with("any answers lost;free answers lost;");
        for (int k = 1; k <= 3; k++) {
            x.pass(LENT, 10 * k, 99, 0, true);
        }
        Check.due("no harm", 0, x::title);
        x.harm(LOST, 30);
        Check.due("all the way down", 3, x::title);
        x.harm(LOST, 29);
        Check.due("to the holder", 2, x::title);
        x.harm(LOST, 9);
        Check.due("with the owner", 0, x::title);
        x.harm(STOLEN, 30);
        Check.due("no claims", 0, x::title);
        x.harm(LOST, 30);
        x.purse(3, 99);
        Check.due("not the whole", 2, x::title);
        x.purse(2, 0);
        Check.due("not the whole of hand 2", 1, x::title);
        x.purse(1, 0);
        Check.due("not even of hand 1", 0, x::title);
        x.purse(1, 1);
        Check.due("with what it gets it pays all", 1, x::title);
        x.force(NONE);
        Check.due("no law", 0, x::title);
    }

    // Promise 29, section 4: "TITLE goes to it (of several the one with the least number)."
    private static void titleOfSeveral() {
        KeepingHands x = with("lent answers all;paid answers all;paid owes 60;work answers all;work owes 200;");
        x.value(60);
        x.pass(PAID, 0, 0, 0, false);
        x.pass(LENT, 0, 0, 0, false);
        x.pass(LENT, 0, 0, 0, true);
        x.pass(LENT, 0, 0, 0, true);
        x.pass(5, 0, 0, 0, true);
        x.harm(LOST, 0);
        row("whom", x::whom, NONE, 0, 0, 0, 3, 4);
        Check.due("the one with the least number", 1, x::title);
        x.purse(1, 0);
        Check.due("the next, and it passed", 2, x::title);
        x.purse(2, 0);
        Check.due("the last that answers to the owner, and on", 5, x::title);
        x.purse(4, 0);
        x.purse(5, 10);
        Check.due("not the whole of hand 5 and hand 4", 3, x::title);
        x.purse(1, 1);
        Check.due("one unit lacks for none", 0, x::title);
    }

    // Promise 29, section 4: "PAYS its whole CLAIM, and that is VALUE or more (above 0)"
    private static void titleAndValue() {
        KeepingHands x = with("any answers all;any owes 50+10*fault;");
        x.pass(LENT, 0, 0, 0, true);
        x.pass(LENT, 0, 0, 0, true);
        x.harm(LOST, 0);
        x.value(51);
        Check.due("less than the value", 0, x::title);
        x.value(50);
        Check.due("the value", 2, x::title);
        x.value(49);
        Check.due("more than the value: not paid whole", 0, x::title);
        x.value(50);
        x.fact(2, 0, true);
        Check.due("more than the value, paid down the chain", 2, x::title);
        x.value(60);
        x.fact(1, 0, true);
        x.fact(2, 0, false);
        Check.due("down the chain less than the value", 1, x::title);
        x.value(1);
        Check.due("a claim that is not paid whole", 0, x::title);
        KeepingHands one = with("any answers all;any owes 1;");
        one.pass(LENT, 0, 0, 0, true);
        one.harm(LOST, 0);
        one.value(1);
        Check.due("a claim of one", 1, one::title);
        KeepingHands y = with("any answers all;any owes 0;");
        y.pass(LENT, 0, 0, 0, true);
        y.harm(LOST, 0);
        y.value(0);
        Check.due("a claim of nothing", 0, y::title);
    }

    // Promise 30: "What a HAND gets, the thing being FOUND."
    private static void found() {
        KeepingHands x = with("lent answers lost;any twice;");
        x.pass(LENT, 0, 0, 0, true);
        row("no harm", k -> x.found(k, 7), 7, 0);
        x.harm(LOST, 0);
        row("hand 1, which answers", k -> x.found(k, 9999), 0, 9999);
        row("grown to nothing", k -> x.found(k, 0), 0, 0);
        x.purse(1, 0);
        row("the owner", k -> x.found(k, 300), 300, 0);
    }

    // Promise 30, section 4: "but twice that, if the LAW has TWICE for its KEEPING, its CLAIM is by SWEARS alone .."
    private static void foundTwice() {
        KeepingHands x = with("paid swears all;lent swears all;paid twice;lent answers all if fault=1;hired twice;");
        x.pass(PAID, 0, 0, 0, true);
        x.pass(LENT, 0, 0, 0, true);
        x.harm(LOST, 0);
        row("lent: not twice", k -> x.found(k, 40), 0, 0, 40);
        x.fact(2, 3, true);
        row("paid: twice", k -> x.found(k, 40), 0, 80, 0);
        row("paid: twice the most", k -> x.found(k, 9999), 0, 19998, 0);
        x.fact(1, 3, true);
        row("both swore", k -> x.found(k, 40), 40, 0, 0);
        KeepingHands y = with("paid swears all;paid answers all if fault=1;any twice;");
        y.pass(PAID, 0, 0, 0, true);
        y.harm(LOST, 0);
        row("by swears alone", k -> y.found(k, 40), 0, 80);
        y.fact(1, 0, true);
        row("by answers too", k -> y.found(k, 40), 0, 40);
        y.fact(1, 3, true);
        row("by answers, and it swore", k -> y.found(k, 40), 0, 40);
        y.fact(1, 0, false);
        row("it swore", k -> y.found(k, 40), 40, 0);
    }

    // Promise 30: "IllegalArgumentException: GROWN."
    private static void wrongFound() {
        KeepingHands x = with("");
        Check.due("grown -1", Check.WRONG_ARGUMENT, () -> x.found(0, -1));
        Check.due("grown 10000", Check.WRONG_ARGUMENT, () -> x.found(0, 10000));
        Check.due("hand 1", Check.NO_SUCH, () -> x.found(1, 10000));
        Check.due("hand -1", Check.NO_SUCH, () -> x.found(-1, 0));
    }

    // Promise 31: "Goods are put: all there are; -1: there were 20 puttings."
    private static void put() {
        KeepingHands x = new KeepingHands();
        Check.due("owner -1", Check.WRONG_ARGUMENT, () -> x.put(-1, 0));
        Check.due("owner 6", Check.WRONG_ARGUMENT, () -> x.put(6, 0));
        Check.due("many -1", Check.WRONG_ARGUMENT, () -> x.put(0, -1));
        Check.due("many 1000", Check.WRONG_ARGUMENT, () -> x.put(0, 1000));
        Check.due("none was put", 0, () -> x.count(4));
        Check.due("nothing put counts", 0, () -> x.put(5, 0));
        for (int i = 1; i < 20; i++) {
            int due = 999 * i;
            Check.due("putting " + i, due, () -> x.put(0, 999));
        }
        Check.due("the 21st", -1, () -> x.put(0, 0));
        Check.due("the 21st, wrong", Check.WRONG_ARGUMENT, () -> x.put(0, 1000));
        Check.due("all goods", 18981, () -> x.count(3));
        Check.due("puttings", 20, () -> x.count(4));
        Check.law(x, "mixed parts;");
        Check.law(x, "mixed last;");
        x.force(0);
        Check.due("all lost, by parts", 18981 * 18981, () -> x.share(0, 18981));
        x.force(1);
        Check.due("all lost, by last", 18981 * 18981, () -> x.share(0, 18981));
    }

    private static KeepingHands goods(String law) {
        KeepingHands x = with(law);
        x.put(0, 10);
        x.put(1, 30);
        x.put(0, 5);
        x.put(2, 0);
        x.put(3, 2);
        return x;
    }

    // Promise 32, section 4: "by parts each OWNER bears of it as its goods are of all"
    private static void parts() {
        KeepingHands x = goods("mixed last;mixed parts;");
        row("none lost", k -> x.share(k, 0), 0, 0, 0, 0, 0, 0);
        row("nine lost", k -> x.share(k, 9), 135, 270, 0, 18, 0, 0);
        row("all lost", k -> x.share(k, 47), 15 * 47, 30 * 47, 0, 2 * 47, 0, 0);
        KeepingHands y = with("mixed parts;");
        row("no goods", k -> y.share(k, 0), 0, 0, 0, 0, 0, 0);
    }

    // Promise 32, section 4: "by last: what was put last is lost first."
    private static void last() {
        KeepingHands x = goods("mixed parts;mixed last;any twice;");
        row("none lost", k -> x.share(k, 0), 0, 0, 0, 0, 0, 0);
        row("one lost", k -> x.share(k, 1), 0, 0, 0, 47, 0, 0);
        row("nine lost", k -> x.share(k, 9), 5 * 47, 2 * 47, 0, 2 * 47, 0, 0);
        row("40 lost", k -> x.share(k, 40), 8 * 47, 30 * 47, 0, 2 * 47, 0, 0);
        row("all lost", k -> x.share(k, 47), 15 * 47, 30 * 47, 0, 2 * 47, 0, 0);
    }

    // Promise 32, section 4: "without mixed: none bears."
    private static void withoutMixed() {
        KeepingHands x = goods("any twice;");
        row("a law without mixed", k -> x.share(k, 47), 0, 0, 0, 0, 0, 0);
        x.force(NONE);
        row("no law", k -> x.share(k, 47), 0, 0, 0, 0, 0, 0);
        Check.due("no law, too many", Check.WRONG_ARGUMENT, () -> x.share(0, 48));
        // A fault behind a mixed clause leaves nothing of it to the next law.
        Check.due("a text with a fault", -9, () -> Check.law(x, "mixed parts;#"));
        Check.due("the next law", 1, () -> Check.law(x, ""));
        x.force(1);
        row("nothing is left of it", k -> x.share(k, 47), 0, 0, 0, 0, 0, 0);
    }

    // Promise 32: "IllegalArgumentException: the OWNER, or they are not 0 to all the goods."
    private static void wrongShare() {
        KeepingHands x = goods("mixed parts;");
        Check.due("owner -1", Check.WRONG_ARGUMENT, () -> x.share(-1, 0));
        Check.due("owner 6", Check.WRONG_ARGUMENT, () -> x.share(6, 0));
        Check.due("lost -1", Check.WRONG_ARGUMENT, () -> x.share(0, -1));
        Check.due("lost 48", Check.WRONG_ARGUMENT, () -> x.share(0, 48));
    }

    // Promise 33: "A JUDGEMENT: what was told. IllegalArgumentException: it is not 0 to 9,999."
    private static void judge() {
        KeepingHands x = with("");
        x.pass(LENT, 0, 0, 0, true);
        Check.due("0 at first", 0, () -> x.judge(1, 9999));
        Check.due("9999", 9999, () -> x.judge(1, 0));
        Check.due("0", 0, () -> x.judge(1, 8));
        Check.due("of the owner", 0, () -> x.judge(0, 5));
        Check.due("of the owner again", 5, () -> x.judge(0, 5));
        Check.due("-1", Check.WRONG_ARGUMENT, () -> x.judge(1, -1));
        Check.due("10000", Check.WRONG_ARGUMENT, () -> x.judge(1, 10000));
        Check.due("hand 2", Check.NO_SUCH, () -> x.judge(2, 10000));
        Check.due("hand -1", Check.NO_SUCH, () -> x.judge(-1, 0));
        Check.due("8 stays", 8, () -> x.judge(1, 8));
    }

    // Promise 34: "The first HAND (from 1 on) whose JUDGEMENT is not its CLAIM; NONE."
    private static void wrong() {
        KeepingHands x = with("lent answers all;");
        Check.due("no hands", NONE, x::wrong);
        x.judge(0, 7);
        Check.due("the owner's is not looked at", NONE, x::wrong);
        x.pass(LENT, 0, 0, 0, true);
        x.pass(FREE, 5, 0, 0, true);
        x.pass(LENT, 9, 0, 0, true);
        Check.due("no harm, nothing told", NONE, x::wrong);
        x.judge(1, 100);
        Check.due("no harm, something told", 1, x::wrong);
        x.harm(LOST, 5);
        Check.due("right", NONE, x::wrong);
        x.judge(3, 100);
        Check.due("behind the holder", 3, x::wrong);
        x.judge(2, 1);
        Check.due("the first of two", 2, x::wrong);
        x.judge(2, 0);
        x.harm(LOST, 9);
        Check.due("right again", NONE, x::wrong);
        x.purse(1, 0);
        Check.due("a claim, not what is paid", NONE, x::wrong);
        x.judge(1, 99);
        Check.due("one less", 1, x::wrong);
    }
}
