import java.util.function.Supplier;

/** Promises 37 to 39, and what holds of the whole object: each sentence told above the test that stands for it. */
public final class WholeEdgesTest {
    private static final int NONE = KeepingHands.NONE;
    private static final int LENT = 2;
    private static final int LOST = 3;

    public static void main(String[] args) {
        none();
        imageThree();
        imageFourth();
        restoreLatest();
        restoreNone();
        restoreMakesRoom();
        imageOfAll();
        imageOfEmpty();
        imageOfFull();
        imageIsACopy();
        imageHoldsNoLaws();
        countEdges();
        countOfOthers();
        calls512();
        severalExceptions();
        Check.end();
    }

    // The public face: "NONE = -1"
    private static void none() {
        Check.due("NONE", -1, () -> KeepingHands.NONE);
    }

    // Promise 37: "how many there are"
    private static void imageThree() {
        KeepingHands x = new KeepingHands();
        for (int i = 1; i <= 3; i++) {
            int due = i;
            Check.due("image", due, x::image);
            Check.due("images", due, () -> x.count(5));
        }
    }

    private static KeepingHands threeImages() {
        KeepingHands x = Refused.plenty();
        x.purse(3, 1);
        x.image();
        x.purse(3, 2);
        x.image();
        x.purse(3, 3);
        return x;
    }

    // Promise 37: "-1: there are 3."
    private static void imageFourth() {
        Refused.is("a fourth image", -1, WholeEdgesTest::threeImages, KeepingHands::image);
        KeepingHands x = threeImages();
        Check.due("a fourth", -1, x::image);
        Check.due("a fifth", -1, x::image);
        Check.due("three", 3, () -> x.count(5));
        Check.due("restore", 2, x::restore);
        Check.due("the third is as it was", 2, () -> x.hand(3, 5));
    }

    // Promise 38: "All is as in the latest IMAGE, which is gone: how many are left"
    private static void restoreLatest() {
        KeepingHands x = threeImages();
        for (int left = 2; left >= 0; left--) {
            int due = left;
            int purse = left == 0 ? 9999 : left;
            Check.due("restore", due, x::restore);
            Check.due("images", due, () -> x.count(5));
            Check.due("as in that", purse, () -> x.hand(3, 5));
        }
        Check.due("value as in the first", 100, () -> x.count(7));
        Check.due("none is left", -1, x::restore);
    }

    // Promise 38: "-1: there is none."
    private static void restoreNone() {
        Supplier<KeepingHands> made = () -> {
            KeepingHands x = Refused.plenty();
            x.restore();
            x.purse(3, 7);
            x.question(0, 1, 0);
            return x;
        };
        Refused.is("restore of none", -1, made, KeepingHands::restore);
        Refused.is("restore in a new object", -1, KeepingHands::new, KeepingHands::restore);
        Refused.is("restore again", -1, made, x -> x.restore() + x.restore() + 1);
    }

    // Promises 37, 38: an IMAGE that is gone leaves room for one.
    private static void restoreMakesRoom() {
        KeepingHands x = threeImages();
        for (int round = 0; round < 5; round++) {
            int value = 200 + round;
            Check.due("no room", -1, x::image);
            Check.due("restore", 2, x::restore);
            x.value(value);
            Check.due("room", 3, x::image);
            x.value(1);
            Check.due("restore", 2, x::restore);
            Check.due("as in that", value, () -> x.count(7));
            Check.due("room again", 3, x::image);
        }
    }

    // Promise 37: "(all of section 2, QUESTIONS, JUDGEMENTS, goods, the LAW in force)"
    private static void imageOfAll() {
        KeepingHands x = Refused.plenty();
        KeepingHands twin = Refused.plenty();
        x.image();
        spoil(x);
        Check.due("restore", 1, x::restore);
        same("all is as in the image", twin, x);
    }

    private static void spoil(KeepingHands x) {
        x.force(1);
        x.pass(5, 60, 70, 2, false);
        x.pass(4, 61, 71, 1, true);
        for (int hand = 0; hand < 6; hand++) {
            for (int fact = 0; fact < 4; fact++) {
                x.fact(hand, fact, (hand + fact) % 2 == 0);
            }
            x.purse(hand, 1000 + hand);
            x.judge(hand, 2000 + hand);
        }
        x.value(3000);
        x.harm(5, 70);
        x.find(0, false);
        x.question(3, 5, 0);
        x.question(4, 0, 1);
        x.question(5, 0, 1);
        x.put(0, 7);
        x.put(3, 8);
        x.image();
        x.value(4000);
        x.restore();
    }

    private static void same(String what, KeepingHands twin, KeepingHands x) {
        String want = Refused.told(twin);
        String got = Refused.told(x);
        Check.due(what + " (" + got + ", due is " + want + ")", 1, () -> want.equals(got) ? 1 : 0);
    }

    // Promise 37: an IMAGE of a CHAIN of HAND 0 alone, without anything; what came behind it is new again.
    private static void imageOfEmpty() {
        KeepingHands x = new KeepingHands();
        x.image();
        Check.law(x, "any answers all;");
        Check.law(x, "mixed last;");
        x.pass(5, 9, 9, 3, false);
        x.pass(5, 9, 9, 3, false);
        for (int hand = 0; hand < 3; hand++) {
            for (int fact = 0; fact < 4; fact++) {
                x.fact(hand, fact, true);
            }
            x.purse(hand, 1);
            x.judge(hand, 2);
        }
        x.value(3);
        x.harm(0, 9);
        x.question(4, 0, 5);
        x.question(5, 0, 7);
        x.put(4, 5);
        x.force(1);
        Check.due("restore", 0, x::restore);
        KeepingHands twin = new KeepingHands();
        Check.law(twin, "any answers all;");
        Check.law(twin, "mixed last;");
        Check.due("hand 1 again", 1, () -> x.pass(0, 0, 0, 0, true));
        Check.due("hand 1", 1, () -> twin.pass(0, 0, 0, 0, true));
        Check.due("a question again", 0, () -> x.question(4, 0, LOST));
        Check.due("a question", 0, () -> twin.question(4, 0, LOST));
        Check.due("goods again", 6, () -> x.put(1, 6));
        Check.due("goods", 6, () -> twin.put(1, 6));
        same("a new hand, question, putting", twin, x);
    }

    private static KeepingHands full() {
        KeepingHands x = Refused.plenty();
        for (int k = 4; k <= 12; k++) {
            x.pass(k % 6, 30 + k, 60, k % 4, k % 3 == 0);
            x.purse(k, 10 * k);
            x.judge(k, 20 * k);
            x.fact(k, k % 4, true);
        }
        for (int i = 2; i < 8; i++) {
            x.question(i % 4, i, 0);
        }
        for (int i = 4; i <= 20; i++) {
            x.put(i % 6, i);
        }
        x.harm(LOST, 50);
        return x;
    }

    // Promise 37: an IMAGE of twelve HANDS besides HAND 0, eight QUESTIONS, twenty puttings
    private static void imageOfFull() {
        KeepingHands x = full();
        x.image();
        for (int k = 0; k <= 12; k++) {
            x.purse(k, 0);
            x.judge(k, 0);
            for (int fact = 0; fact < 4; fact++) {
                x.fact(k, fact, false);
            }
        }
        for (int i = 0; i < 8; i++) {
            x.find(0, true);
        }
        x.harm(NONE, 0);
        x.force(NONE);
        Check.due("restore", 1, x::restore);
        same("twelve hands, eight questions, twenty puttings", full(), x);
        KeepingHands y = full();
        y.image();
        for (int i = 0; i < 4; i++) {
            y.restore();
        }
        Check.due("the first image, of four hands", 4, () -> y.count(1));
        Check.due("of one question", 1, () -> y.count(2));
        Check.due("of two puttings", 2, () -> y.count(4));
        Check.due("of goods", 30, () -> y.count(3));
        Check.due("and room for a hand", 4, () -> y.pass(0, 30, 30, 0, true));
    }

    // Promise 37: what is told behind an IMAGE, or behind its restoring, is not in another.
    private static void imageIsACopy() {
        KeepingHands x = new KeepingHands();
        x.pass(LENT, 1, 1, 0, true);
        for (int i = 1; i <= 3; i++) {
            x.purse(1, i);
            x.judge(1, i);
            x.put(0, i);
            x.image();
        }
        int[] goods = {0, 1, 3, 6};
        for (int i = 3; i >= 1; i--) {
            x.purse(1, 50);
            x.judge(1, 50);
            x.fact(1, 0, true);
            x.put(5, 50);
            x.question(0, 0, 0);
            x.restore();
            int due = i;
            Check.due("purse", due, () -> x.hand(1, 5));
            Check.due("judgement", due, () -> x.judge(1, 60));
            Check.dueIf("fact", false, () -> x.fact(1, 0, true));
            Check.due("goods", goods[due], () -> x.count(3));
            Check.due("questions", 0, () -> x.count(2));
        }
    }

    // Promise 37: an IMAGE is of the CHAIN: LAWS, the TAPE and the FAULT stay as they are.
    private static void imageHoldsNoLaws() {
        KeepingHands x = new KeepingHands();
        Check.law(x, "any answers all;");
        x.force(0);
        x.image();
        Check.law(x, "any swears all;");
        Check.law(x, "any twice;#");
        Check.feed(x, "any lets 1;");
        x.force(1);
        x.restore();
        Check.due("two laws", 2, () -> x.count(0));
        Check.due("twenty bytes", 20, () -> x.count(6));
        Check.due("the fault", 10, x::fault);
        Check.due("law 0 is in force again", 0, () -> x.force(1));
        Check.due("law 2 of the tape", 2, () -> x.law(11));
        Check.due("none is left", -1, x::restore);
        Check.due("three laws", 3, () -> x.count(0));
    }

    // Promise 39: "0 LAWS, 1 HANDS, 2 QUESTIONS, 3 all goods, 4 puttings, 5 IMAGES, 6 bytes of the TAPE, 7 VALUE": the most
    private static void countEdges() {
        KeepingHands x = new KeepingHands();
        int[] none = {0, 1, 0, 0, 0, 0, 0, 100};
        for (int what = 0; what < 8; what++) {
            int w = what;
            Check.due("at first " + w, none[w], () -> x.count(w));
        }
        for (int i = 0; i < 4; i++) {
            x.law(0);
        }
        for (int i = 0; i < 12; i++) {
            x.pass(0, 0, 0, 0, true);
        }
        for (int i = 0; i < 8; i++) {
            x.question(0, 0, 0);
        }
        for (int i = 0; i < 20; i++) {
            x.put(5, 999);
        }
        for (int i = 0; i < 3; i++) {
            x.image();
        }
        for (int i = 0; i < 25; i++) {
            x.feed(0, 0, 0, 0, 0);
        }
        x.value(9999);
        int[] most = {4, 13, 8, 19980, 20, 3, 500, 9999};
        for (int what = 0; what < 8; what++) {
            int w = what;
            Check.due("the most " + w, most[w], () -> x.count(w));
        }
        x.value(0);
        Check.due("no value", 0, () -> x.count(7));
    }

    // Promise 39: "NONE for others."
    private static void countOfOthers() {
        for (int what : new int[] {-1, 8, 9, 100, -2, Integer.MIN_VALUE, Integer.MAX_VALUE}) {
            Refused.is("count of " + what, NONE, Refused::plenty, x -> x.count(what));
            Refused.is("count of " + what + " in a new object", NONE, KeepingHands::new, x -> x.count(what));
        }
    }

    // What it is: "An object is used for at most 512 calls after it has been made": all of these answer as is due.
    private static void calls512() {
        KeepingHands x = new KeepingHands();
        for (int call = 1; call <= 512; call++) {
            int before = call == 1 ? 100 : call - 1;
            int now = call;
            Check.due("call " + call, before, () -> x.value(now));
        }
        // The dearest questions to the end: twelve hands, eight questions, four laws.
        KeepingHands y = new KeepingHands();
        Check.law(y, "any answers all if fault=1;any owes 1;");
        y.force(0);
        for (int k = 1; k <= 12; k++) {
            y.pass(LENT, 0, 0, 0, true);
        }
        y.harm(LOST, 0);
        for (int k = 1; k <= 8; k++) {
            y.question(0, k, 0);
        }
        int used = 2 + 1 + 1 + 12 + 1 + 8;
        for (int call = used + 1; call <= 512; call++) {
            Check.due("call " + call, 255, y::least);
        }
        KeepingHands z = new KeepingHands();
        for (int call = 1; call <= 512; call += 2) {
            Check.due("call " + call, 1, z::image);
            Check.due("call " + (call + 1), 0, z::restore);
        }
    }

    // Section 4: "Of several exceptions of one call NoSuchElementException goes ahead of IllegalArgumentException"
    private static void severalExceptions() {
        int due = Check.NO_SUCH;
        for (int hand : Refused.notWithin(0, 3)) {
            Refused.is("hand", due, Refused::plenty, x -> x.hand(hand, 6));
            Refused.is("purse", due, Refused::plenty, x -> x.purse(hand, 10000));
            Refused.is("fact", due, Refused::plenty, x -> x.fact(hand, 4, true) ? 1 : 0);
            Refused.is("name", due, Refused::plenty, x -> x.name(hand, 8));
            Refused.is("in case", due, Refused::plenty, x -> x.inCase(4, hand));
            Refused.is("found", due, Refused::plenty, x -> x.found(hand, 10000));
            Refused.is("judge", due, Refused::plenty, x -> x.judge(hand, 10000));
            Refused.is("beside", due, Refused::plenty, x -> x.beside(2, hand));
        }
    }
}
