import java.util.function.IntFunction;
import java.util.function.IntSupplier;
import java.util.function.Supplier;

/**
 * Calls that are refused: what they answer, and that they leave all as it was. For that an object is held against
 * a twin on which the call was not made; both tell all that can be asked, to their laws, tape and images.
 */
final class Refused {
    private Refused() {
    }

    interface On {
        int answer(KeepingHands x);
    }

    /** Numbers that are not from least to most: next to it on both sides, and as far off as can be. */
    static int[] notWithin(int least, int most) {
        return new int[] {least - 1, most + 1, Integer.MIN_VALUE, Integer.MAX_VALUE};
    }

    static void is(String what, int due, Supplier<KeepingHands> made, On call) {
        KeepingHands x = made.get();
        Check.due(what, due, () -> call.answer(x));
        String want = told(made.get());
        String got = told(x);
        Check.due(what + " leaves all as it was (" + got + ", due is " + want + ")", 1, () -> want.equals(got) ? 1 : 0);
    }

    /** The call with each number that is not from least to most is refused. */
    static void outside(String what, int least, int most, int due, IntFunction<On> call) {
        for (int number : notWithin(least, most)) {
            is(what + " " + number, due, Refused::plenty, call.apply(number));
        }
    }

    /** Two laws, a fault, a tape, four hands, a harm, two questions, goods, judgements, an image: some of each. */
    static KeepingHands plenty() {
        KeepingHands x = new KeepingHands();
        Check.law(x, "any answers all if fault=1;paid swears all;any lets 2,3;any twice;mixed last;any owes value-days;");
        Check.law(x, "any answers all;mixed parts;");
        Check.law(x, "any twice;#");
        Check.feed(x, "lent twice;");
        x.force(0);
        x.pass(1, 10, 20, 2, true);
        x.pass(2, 20, 25, 3, false);
        x.pass(3, 30, 40, 1, true);
        x.fact(2, 0, true);
        x.fact(3, 1, true);
        x.fact(0, 3, true);
        x.purse(1, 30);
        x.purse(0, 40);
        x.put(1, 10);
        x.put(2, 20);
        x.judge(1, 7);
        x.judge(0, 8);
        x.question(0, 3, 0);
        x.image();
        x.question(5, 0, 25);
        x.harm(3, 29);
        x.value(80);
        x.put(1, 5);
        return x;
    }

    /** All that can be asked; the object is another one then. */
    static String told(KeepingHands x) {
        StringBuilder out = new StringBuilder();
        tellChain(out, x);
        tellLaws(out, x);
        int bytes = x.count(6);
        tell(out, "law", () -> x.law(bytes));
        tell(out, "fault", x::fault);
        for (int i = 0; i < 4; i++) {
            tell(out, "restore", x::restore);
            tell(out, "value", () -> x.count(7));
            tell(out, "hands", () -> x.count(1));
            tell(out, "bears", () -> x.bears(0));
        }
        return out.toString();
    }

    private static void tell(StringBuilder out, String what, IntSupplier call) {
        out.append(what).append(' ').append(call.getAsInt()).append(' ');
    }

    private static void tellChain(StringBuilder out, KeepingHands x) {
        for (int what = 0; what < 8; what++) {
            int w = what;
            tell(out, "count", () -> x.count(w));
        }
        tell(out, "fault", x::fault);
        tell(out, "holder", x::holder);
        tell(out, "title", x::title);
        tell(out, "wrong", x::wrong);
        tell(out, "least", x::least);
        int last = x.count(1) - 1;
        for (int hand = 0; hand <= last; hand++) {
            if (hand < 3 || hand >= last - 1) {
                tellHand(out, x, hand);
            }
        }
        for (int owner = 1; owner < 3; owner++) {
            int o = owner;
            tell(out, "share", () -> x.share(o, x.count(3) / 2));
        }
        for (int hand = 0; hand <= last; hand++) {
            int h = hand;
            tell(out, "judged", () -> x.judge(h, 0));
        }
        for (int hand = 0; hand <= last && hand < 4; hand++) {
            for (int fact = 0; fact < 4; fact++) {
                int h = hand;
                int f = fact;
                tell(out, "fact", () -> x.fact(h, f, false) ? 1 : 0);
            }
        }
        tell(out, "force", () -> x.force(KeepingHands.NONE));
        while (x.count(2) > 0) {
            tell(out, "find", () -> x.find(0, true));
        }
        tell(out, "holder", x::holder);
        tell(out, "harm", () -> x.harm(KeepingHands.NONE, 0));
    }

    private static void tellHand(StringBuilder out, KeepingHands x, int hand) {
        for (int what = 0; what < 6; what++) {
            int w = what;
            tell(out, "hand", () -> x.hand(hand, w));
        }
        for (int what = 3; what < 8; what++) {
            int w = what;
            tell(out, "name", () -> x.name(hand, w));
        }
        tell(out, "claim", () -> x.claim(hand));
        tell(out, "whom", () -> x.whom(hand));
        tell(out, "pays", () -> x.pays(hand));
        tell(out, "bears", () -> x.bears(hand));
        tell(out, "must", () -> x.must(hand) ? 1 : 0);
        tell(out, "frees", () -> x.frees(hand));
        tell(out, "cases", () -> x.cases(hand));
        tell(out, "hangs", () -> x.hangs(hand));
        int cases = 1 << Math.min(2, x.count(2));
        for (int bits = 0; bits < cases; bits++) {
            int b = bits;
            tell(out, "in case", () -> x.inCase(b, hand));
        }
    }

    private static void tellLaws(StringBuilder out, KeepingHands x) {
        for (int law = 0; law < x.count(0); law++) {
            int n = law;
            for (int what = 0; what < 3; what++) {
                int w = what;
                tell(out, "words", () -> x.words(n, 192, 0, 50, 7, w));
            }
            tell(out, "lets", () -> x.lets(n, 1, 2) ? 1 : 0);
            tell(out, "twice", () -> x.lets(n, 1, 0) ? 1 : 0);
        }
    }
}
