/** Promises 37 to 39: images, what they hold and what not, and counts. */
public final class ImagesTest {
    private static final int NONE = KeepingHands.NONE;
    private static final int LENT = 2;
    private static final int LOST = 3;

    public static void main(String[] args) {
        howMany();
        latestFirst();
        holdsTheChain();
        holdsQuestions();
        holdsGoods();
        holdsNoLaws();
        isACopy();
        count();
        Check.end();
    }

    // Promise 37: "how many there are; -1: there are 3."; promise 38: "how many are left; -1: there is none."
    private static void howMany() {
        KeepingHands x = new KeepingHands();
        Check.due("none to restore", -1, x::restore);
        for (int i = 1; i <= 3; i++) {
            int due = i;
            Check.due("image", due, x::image);
            Check.due("images", due, () -> x.count(5));
        }
        x.value(3);
        Check.due("a fourth", -1, x::image);
        Check.due("still three", 3, () -> x.count(5));
        Check.due("restore", 2, x::restore);
        Check.due("the fourth was not taken", 100, () -> x.count(7));
        Check.due("restore", 1, x::restore);
        Check.due("room again", 2, x::image);
        Check.due("restore", 1, x::restore);
        Check.due("restore", 0, x::restore);
        Check.due("restore none", -1, x::restore);
    }

    // Promise 38: "All is as in the latest IMAGE, which is gone"
    private static void latestFirst() {
        KeepingHands x = new KeepingHands();
        for (int v = 1; v <= 3; v++) {
            x.value(v);
            x.image();
        }
        x.value(9);
        for (int v = 3; v >= 1; v--) {
            int due = v;
            x.restore();
            Check.due("value", due, () -> x.count(7));
        }
        x.value(9);
        x.restore();
        Check.due("nothing to restore", 9, () -> x.count(7));
    }

    // Promise 37: "(all of section 2, .. JUDGEMENTS, .. the LAW in force)"
    private static void holdsTheChain() {
        KeepingHands x = new KeepingHands();
        Check.law(x, "any answers all;");
        Check.law(x, "any swears all;");
        x.force(0);
        x.pass(LENT, 10, 12, 2, true);
        x.fact(1, 2, true);
        x.fact(0, 1, true);
        x.purse(1, 40);
        x.purse(0, 41);
        x.judge(1, 50);
        x.judge(0, 51);
        x.harm(LOST, 11);
        x.image();

        x.force(1);
        x.pass(1, 20, 22, 1, false);
        x.fact(1, 2, false);
        x.fact(1, 3, true);
        x.fact(0, 1, false);
        x.purse(1, 1);
        x.purse(0, 2);
        x.purse(2, 3);
        x.judge(1, 4);
        x.judge(0, 5);
        x.judge(2, 6);
        x.fact(2, 0, true);
        x.value(7);
        x.harm(NONE, 30);
        Check.due("restore", 0, x::restore);

        Check.due("hands", 2, () -> x.count(1));
        int[] due = {LENT, 10, 12, 2, 1, 40};
        for (int what = 0; what < 6; what++) {
            int asked = what;
            Check.due("hand 1 what " + what, due[what], () -> x.hand(1, asked));
        }
        Check.due("purse of 0", 41, () -> x.hand(0, 5));
        Check.due("no hand 2", Check.NO_SUCH, () -> x.hand(2, 0));
        Check.dueIf("use of 1", true, () -> x.fact(1, 2, true));
        Check.dueIf("1 did not swear", false, () -> x.fact(1, 3, false));
        Check.dueIf("there of 0", true, () -> x.fact(0, 1, true));
        Check.due("judged of 1", 50, () -> x.judge(1, 50));
        Check.due("judged of 0", 51, () -> x.judge(0, 51));
        Check.due("value", 100, () -> x.count(7));
        Check.due("days", 1, () -> x.name(1, 7));
        Check.due("harm", LOST, () -> x.harm(LOST, 11));
        Check.due("in force", 0, () -> x.force(0));
        Check.due("bears", 40, () -> x.bears(1));
        Check.due("a new hand 2", 2, () -> x.pass(LENT, 10, 10, 0, true));
        Check.due("its purse is new", 9999, () -> x.hand(2, 5));
        Check.dueIf("its facts are new", false, () -> x.fact(2, 0, false));
        Check.due("its judgement is new", 0, () -> x.judge(2, 0));
    }

    // Promise 37: "(.. QUESTIONS ..)"
    private static void holdsQuestions() {
        KeepingHands x = new KeepingHands();
        x.question(4, 0, LOST);
        x.question(5, 0, 17);
        x.image();
        x.find(0, true);
        x.find(0, true);
        x.question(3, 0, 0);
        x.question(3, 0, 0);
        x.question(3, 0, 0);
        x.restore();
        Check.due("questions", 2, () -> x.count(2));
        Check.due("no harm", NONE, x::holder);
        Check.due("with the harm", 100, () -> x.inCase(1, 0));
        Check.due("the first", 4, () -> x.find(0, true));
        Check.due("the second", 5, () -> x.find(0, true));
        Check.due("harm", LOST, () -> x.harm(LOST, 17));
        x.pass(LENT, 17, 17, 0, true);
        Check.due("day", 1, x::holder);
    }

    // Promise 37: "(.. goods ..)"
    private static void holdsGoods() {
        KeepingHands x = new KeepingHands();
        Check.law(x, "mixed last;");
        x.force(0);
        x.put(1, 10);
        x.put(2, 20);
        x.image();
        x.put(3, 5);
        x.restore();
        Check.due("goods", 30, () -> x.count(3));
        Check.due("puttings", 2, () -> x.count(4));
        Check.due("the last", 30 * 20, () -> x.share(2, 25));
        Check.due("the first", 30 * 5, () -> x.share(1, 25));
        x.image();
        x.restore();
        Check.due("put again", 34, () -> x.put(4, 4));
        Check.due("the new last", 34 * 3, () -> x.share(4, 3));
    }

    // Promise 37: "An IMAGE of the CHAIN": LAWS and the TAPE are not in it.
    private static void holdsNoLaws() {
        KeepingHands x = new KeepingHands();
        x.image();
        Check.law(x, "any answers all;");
        x.force(0);
        x.feed(0, 0, 0, 0, 0);
        x.restore();
        Check.due("laws stay", 1, () -> x.count(0));
        Check.due("the tape stays", 20, () -> x.count(6));
        Check.due("none was in force", NONE, () -> x.force(NONE));
    }

    // Promise 38: "All is as in the latest IMAGE": whatever was told since.
    private static void isACopy() {
        KeepingHands x = new KeepingHands();
        x.pass(LENT, 1, 2, 0, true);
        x.image();
        x.image();
        x.purse(1, 5);
        x.fact(1, 0, true);
        x.restore();
        x.purse(1, 6);
        x.fact(1, 0, true);
        x.restore();
        Check.due("purse", 9999, () -> x.hand(1, 5));
        Check.dueIf("fault", false, () -> x.fact(1, 0, false));
    }

    // Promise 39: "0 LAWS, 1 HANDS, 2 QUESTIONS, 3 all goods, 4 puttings, 5 IMAGES, 6 bytes of the TAPE, 7 VALUE"
    private static void count() {
        KeepingHands x = new KeepingHands();
        Check.law(x, "any answers all;");
        Check.law(x, "any twice;");
        x.pass(LENT, 1, 2, 0, true);
        x.pass(LENT, 1, 2, 0, true);
        for (int i = 0; i < 4; i++) {
            x.question(0, 1, 0);
        }
        for (int i = 1; i <= 5; i++) {
            x.put(i, i);
        }
        x.image();
        x.feed(0, 0, 0, 0, 0);
        x.feed(0, 0, 0, 0, 0);
        x.value(8);
        int[] due = {2, 3, 4, 15, 5, 1, 40, 8, NONE};
        for (int what = 0; what < due.length; what++) {
            int asked = what;
            Check.due("count " + what, due[what], () -> x.count(asked));
        }
        Check.due("count -1", NONE, () -> x.count(-1));
        Check.due("count of the least", NONE, () -> x.count(Integer.MIN_VALUE));
    }
}
