import java.util.function.IntUnaryOperator;

/** Promises 8 to 21 and 36 and section 2: each sentence that names an edge, told above the test that stands for it. */
public final class ChainEdgesTest {
    private static final int NONE = KeepingHands.NONE;
    private static final int LENT = 2;
    private static final int LOST = 3;
    private static final int ALL_HANDS = 13;

    public static void main(String[] args) {
        passTwelve();
        passThirteenth();
        passBelowTheDayAhead();
        passFirstOfThese();
        passOutside();
        passEdges();
        handEdges();
        handOfTheOwner();
        handNoSuch();
        valueEdges();
        valueNoSuch();
        purseEdges();
        purseNoSuch();
        factEdges();
        factNoSuch();
        harmEdges();
        harmNoSuch();
        holderWithout();
        holderByTheDay();
        nameLate();
        namePassed();
        nameTerm();
        nameValueAndDays();
        nameNone();
        nameNoSuch();
        claimLikewise();
        whomLikewise();
        whomPassed();
        paysLikewise();
        paysTheLesser();
        paysWhatItGets();
        paysWhatValueLacks();
        bearsOfTheOwner();
        bearsLessThanNothing();
        bearsBehindTheHolder();
        bearsOfTwelve();
        mustLikewise();
        mustThreeWays();
        freesAndSworn();
        freesAllElse();
        noSuchHands();
        besideEdges();
        besideNoSuch();
        Check.end();
    }

    /** A law in force, and so many hands that have the thing as lent, with leave, from day 10, 20, .. on. */
    private static KeepingHands lent(int hands, String law) {
        KeepingHands x = new KeepingHands();
        Check.due(law, 0, () -> Check.law(x, law));
        x.force(0);
        for (int k = 1; k <= hands; k++) {
            x.pass(LENT, 10 * k, 10 * k + 5, 0, true);
        }
        return x;
    }

    private static void row(String what, IntUnaryOperator asked, int... due) {
        for (int k = 0; k < due.length; k++) {
            int hand = k;
            Check.due(what + " of " + k, due[k], () -> asked.applyAsInt(hand));
        }
    }

    private static KeepingHands twelve() {
        KeepingHands x = Refused.plenty();
        for (int k = 4; k <= 12; k++) {
            x.pass(k % 6, 30 + k, 60, k % 4, k % 2 == 0);
        }
        return x;
    }

    // Promise 8: "A PASSING: the new HAND"; section 2: "a new one (1, 2, .. 12)"
    private static void passTwelve() {
        KeepingHands x = new KeepingHands();
        for (int k = 1; k <= 12; k++) {
            int due = k;
            Check.due("hand " + k + " is none yet", Check.NO_SUCH, () -> x.hand(due, 0));
            Check.due("pass " + k, due, () -> x.pass(due % 6, due, due, due % 4, due % 2 == 0));
            Check.due("hands", due + 1, () -> x.count(1));
        }
        for (int k = 1; k <= 12; k++) {
            int h = k;
            row("hand " + k, w -> x.hand(h, w), h % 6, h, h, h % 4, h % 2 == 0 ? 1 : 0, 9999);
        }
    }

    // Promise 8: "-1: there are 12 besides HAND 0"
    private static void passThirteenth() {
        Refused.is("a 13th passing", -1, ChainEdgesTest::twelve, x -> x.pass(0, 999, 999, 0, true));
        Refused.is("a 13th passing on the same day", -1, ChainEdgesTest::twelve, x -> x.pass(0, 42, 0, 0, true));
        KeepingHands x = twelve();
        Check.due("hand 12", 42, () -> x.hand(12, 1));
        Check.due("hand 13", Check.NO_SUCH, () -> x.hand(13, 1));
    }

    // Promise 8: "-2: the DAY is below that ahead"; section 2: "DAY (.. not below that of the PASSING ahead)"
    private static void passBelowTheDayAhead() {
        Refused.is("a passing a day too early", -2, Refused::plenty, x -> x.pass(0, 29, 29, 0, true));
        Refused.is("a passing on day 0", -2, Refused::plenty, x -> x.pass(0, 0, 999, 0, true));
        KeepingHands x = Refused.plenty();
        Check.due("on the same day", 4, () -> x.pass(0, 30, 0, 0, true));
        Check.due("a day later", 5, () -> x.pass(0, 31, 0, 0, true));
        Check.due("below that one, not below the others", -2, () -> x.pass(0, 30, 0, 0, true));
        KeepingHands y = new KeepingHands();
        Check.due("nothing is ahead of the first", 1, () -> y.pass(0, 0, 0, 0, true));
        Check.due("the last day", 2, () -> y.pass(0, 999, 0, 0, true));
        Check.due("the last day again", 3, () -> y.pass(0, 999, 0, 0, true));
        Check.due("the day ahead of it", -2, () -> y.pass(0, 998, 0, 0, true));
    }

    // Promise 8: "(the first of these)": -1 goes ahead of -2.
    private static void passFirstOfThese() {
        Refused.is("a 13th passing, too early", -1, ChainEdgesTest::twelve, x -> x.pass(0, 41, 0, 0, true));
        Refused.is("a 13th passing, on day 0", -1, ChainEdgesTest::twelve, x -> x.pass(0, 0, 0, 0, true));
    }

    // Promise 8: "IllegalArgumentException: KEEPING, DAY, TILL, or TERM."; section 4: "an exception ahead of -1, -2."
    private static void passOutside() {
        int wrong = Check.WRONG_ARGUMENT;
        Refused.outside("pass of keeping", 0, 5, wrong, k -> x -> x.pass(k, 50, 50, 0, true));
        Refused.outside("pass on day", 0, 999, wrong, day -> x -> x.pass(0, day, 50, 0, true));
        Refused.outside("pass till", 0, 999, wrong, till -> x -> x.pass(0, 50, till, 0, true));
        Refused.outside("pass by term", 0, 3, wrong, term -> x -> x.pass(0, 50, 50, term, true));
        Refused.outside("pass too early, of keeping", 0, 5, wrong, k -> x -> x.pass(k, 0, 50, 0, true));
        Refused.outside("pass too early, till", 0, 999, wrong, till -> x -> x.pass(0, 0, till, 0, true));
        Refused.outside("pass too early, by term", 0, 3, wrong, term -> x -> x.pass(0, 0, 50, term, true));
        Refused.is("a 13th, of no keeping", wrong, ChainEdgesTest::twelve, x -> x.pass(6, 50, 50, 0, true));
        Refused.is("a 13th, on no day", wrong, ChainEdgesTest::twelve, x -> x.pass(0, 1000, 50, 0, true));
        Refused.is("a 13th, till no day", wrong, ChainEdgesTest::twelve, x -> x.pass(0, 50, -1, 0, true));
        Refused.is("a 13th, by no term", wrong, ChainEdgesTest::twelve, x -> x.pass(0, 50, 50, 4, true));
    }

    // Section 2: "KEEPING, DAY (0 to 999 ..), TILL (a DAY), TERM (0 to 3), LEAVE", each at its edges
    private static void passEdges() {
        KeepingHands x = new KeepingHands();
        Check.due("the least of all", 1, () -> x.pass(0, 0, 0, 0, false));
        Check.due("till the last day", 2, () -> x.pass(5, 0, 999, 3, true));
        Check.due("till a day ahead of it", 3, () -> x.pass(5, 999, 0, 3, true));
        Check.due("the most of all", 4, () -> x.pass(5, 999, 999, 3, true));
        row("the least", w -> x.hand(1, w), 0, 0, 0, 0, 0, 9999);
        row("till the last day", w -> x.hand(2, w), 5, 0, 999, 3, 1, 9999);
        row("till a day ahead", w -> x.hand(3, w), 5, 999, 0, 3, 1, 9999);
        row("the most", w -> x.hand(4, w), 5, 999, 999, 3, 1, 9999);
    }

    // Promise 9: "0 KEEPING, 1 DAY, 2 TILL, 3 TERM, 4 LEAVE (1, 0), 5 PURSE"; section 2: "(9,999 at first)"
    private static void handEdges() {
        KeepingHands x = twelve();
        row("hand 1", w -> x.hand(1, w), 1, 10, 20, 2, 1, 30);
        row("hand 2", w -> x.hand(2, w), 2, 20, 25, 3, 0, 9999);
        row("hand 12", w -> x.hand(12, w), 0, 42, 60, 0, 1, 9999);
    }

    // Promise 9: "(0 to 4 of HAND 0: NONE)"
    private static void handOfTheOwner() {
        KeepingHands x = new KeepingHands();
        row("of the owner alone", w -> x.hand(0, w), NONE, NONE, NONE, NONE, NONE, 9999);
        KeepingHands y = twelve();
        row("of the owner", w -> y.hand(0, w), NONE, NONE, NONE, NONE, NONE, 40);
    }

    // Promise 9: "NoSuchElementException: no such HAND (so below); IllegalArgumentException: another what (so below)."
    private static void handNoSuch() {
        Refused.outside("hand", 0, 3, Check.NO_SUCH, hand -> x -> x.hand(hand, 5));
        Refused.outside("hand of what", 0, 5, Check.WRONG_ARGUMENT, what -> x -> x.hand(3, what));
        Refused.outside("owner of what", 0, 5, Check.WRONG_ARGUMENT, what -> x -> x.hand(0, what));
        Refused.outside("no hand, of what", 0, 5, Check.NO_SUCH, what -> x -> x.hand(4, what));
        Refused.is("hand 13 of 12", Check.NO_SUCH, ChainEdgesTest::twelve, x -> x.hand(13, 0));
        Refused.is("hand 1 of none", Check.NO_SUCH, KeepingHands::new, x -> x.hand(1, 0));
    }

    // Promise 10: "VALUE: what it was."; section 2: "VALUE: 0 to 9,999 (100 at first)."
    private static void valueEdges() {
        KeepingHands x = lent(1, "any answers all;");
        x.harm(LOST, 10);
        int[] values = {0, 9999, 1, 9998, 0};
        int before = 100;
        for (int value : values) {
            int was = before;
            Check.due("value " + value, was, () -> x.value(value));
            Check.due("it is told", value, () -> x.count(7));
            Check.due("it is a name", value, () -> x.name(1, 6));
            Check.due("it is paid", value, () -> x.pays(1));
            before = value;
        }
    }

    // Promise 10: "IllegalArgumentException: it is none such (so below)."
    private static void valueNoSuch() {
        Refused.outside("value", 0, 9999, Check.WRONG_ARGUMENT, v -> x -> x.value(v));
    }

    // Promise 11: "The PURSE of a HAND: what it was."; section 2: "PURSE of each HAND: 0 to 9,999 (9,999 at first)."
    private static void purseEdges() {
        KeepingHands x = twelve();
        x.purse(0, 9999);
        x.purse(1, 9999);
        for (int hand = 0; hand <= 12; hand++) {
            int h = hand;
            Check.due("at first", 9999, () -> x.purse(h, 0));
            Check.due("nothing", 0, () -> x.purse(h, 9999));
            Check.due("the most", 9999, () -> x.purse(h, h));
        }
        for (int hand = 0; hand <= 12; hand++) {
            int h = hand;
            Check.due("each its own", h, () -> x.hand(h, 5));
        }
    }

    // Promise 11 (by 9, 10): no such HAND, no such PURSE; section 4: NoSuchElementException goes ahead
    private static void purseNoSuch() {
        Refused.outside("purse of hand", 0, 3, Check.NO_SUCH, hand -> x -> x.purse(hand, 5));
        Refused.outside("purse", 0, 9999, Check.WRONG_ARGUMENT, v -> x -> x.purse(3, v));
        Refused.outside("purse of the owner", 0, 9999, Check.WRONG_ARGUMENT, v -> x -> x.purse(0, v));
        Refused.outside("purse of no hand", 0, 9999, Check.NO_SUCH, v -> x -> x.purse(4, v));
    }

    // Promise 12: "A FACT (0 to 3) of a HAND: whether it was so."; section 2: "(all not so at first)"
    private static void factEdges() {
        KeepingHands x = new KeepingHands();
        for (int k = 1; k <= 12; k++) {
            x.pass(0, 0, 0, 0, true);
        }
        for (int hand = 0; hand <= 12; hand++) {
            for (int fact = 0; fact < 4; fact++) {
                int h = hand;
                int f = fact;
                Check.dueIf("not so at first", false, () -> x.fact(h, f, true));
                Check.dueIf("so", true, () -> x.fact(h, f, (h + f) % 3 == 0));
            }
        }
        for (int hand = 0; hand <= 12; hand++) {
            for (int fact = 0; fact < 4; fact++) {
                int h = hand;
                int f = fact;
                Check.dueIf("each its own", (h + f) % 3 == 0, () -> x.fact(h, f, false));
            }
        }
    }

    // Promise 12: "IllegalArgumentException: no such FACT (so below)."; section 4: NoSuchElementException goes ahead
    private static void factNoSuch() {
        Refused.outside("fact of hand", 0, 3, Check.NO_SUCH, hand -> x -> x.fact(hand, 0, true) ? 1 : 0);
        Refused.outside("fact", 0, 3, Check.WRONG_ARGUMENT, fact -> x -> x.fact(1, fact, true) ? 1 : 0);
        Refused.outside("fact of the owner", 0, 3, Check.WRONG_ARGUMENT, fact -> x -> x.fact(0, fact, true) ? 1 : 0);
        Refused.outside("fact of no hand", 0, 3, Check.NO_SUCH, fact -> x -> x.fact(4, fact, true) ? 1 : 0);
    }

    // Promise 13: "A HARM (NONE: none) befell on a DAY: the one that was told."; section 2: "(none at first)"
    private static void harmEdges() {
        KeepingHands x = lent(0, "free answers worn;free answers forced;");
        x.pass(0, 0, 0, 0, true);
        Check.due("none at first", NONE, () -> x.harm(0, 0));
        Check.due("no day is too early", 1, x::holder);
        Check.due("worn", 100, () -> x.claim(1));
        Check.due("days", 0, () -> x.name(1, 7));
        Check.due("worn was told", 0, () -> x.harm(5, 999));
        Check.due("forced", 100, () -> x.claim(1));
        Check.due("days till the last", 999, () -> x.name(1, 7));
        Check.due("forced was told", 5, () -> x.harm(NONE, 0));
        Check.due("no harm", NONE, x::holder);
        Check.due("none was told", NONE, () -> x.harm(NONE, 999));
        Check.due("none was told again", NONE, () -> x.harm(1, 999));
        Check.due("hurt is another", 0, () -> x.claim(1));
        Check.due("hurt was told", 1, () -> x.harm(1, 0));
    }

    // Promise 13: "IllegalArgumentException: no such HARM, DAY (so below)."
    private static void harmNoSuch() {
        Refused.outside("harm", NONE, 5, Check.WRONG_ARGUMENT, harm -> x -> x.harm(harm, 10));
        Refused.outside("harm on day", 0, 999, Check.WRONG_ARGUMENT, day -> x -> x.harm(0, day));
    }

    // Promise 14: "HOLDER; NONE: there is no HARM."
    private static void holderWithout() {
        KeepingHands x = lent(3, "");
        Check.due("no harm yet", NONE, x::holder);
        x.harm(0, 999);
        Check.due("a harm", 3, x::holder);
        x.harm(NONE, 999);
        Check.due("no harm any more", NONE, x::holder);
    }

    // Section 2: "HOLDER: the last HAND whose PASSING is not behind the DAY of the HARM."
    private static void holderByTheDay() {
        KeepingHands x = new KeepingHands();
        for (int day : new int[] {5, 7, 7, 7, 8, 999}) {
            x.pass(0, day, day, 0, true);
        }
        int[] days = {5, 6, 7, 8, 9, 998, 999};
        int[] due = {1, 1, 4, 5, 5, 5, 6};
        for (int i = 0; i < days.length; i++) {
            x.harm(0, days[i]);
            Check.due("holder on day " + days[i], due[i], x::holder);
        }
        KeepingHands y = twelve();
        y.harm(0, 999);
        Check.due("the last of twelve", 12, y::holder);
        y.harm(0, 42);
        Check.due("the last of twelve on its day", 12, y::holder);
        y.harm(0, 41);
        Check.due("the last but one", 11, y::holder);
    }

    // Section 2: "late: the DAY of the HARM is behind TILL"
    private static void nameLate() {
        KeepingHands x = lent(0, "any answers all if late=1;");
        x.pass(0, 0, 20, 0, true);
        x.pass(0, 0, 0, 0, true);
        x.pass(0, 0, 999, 0, true);
        int[][] due = {{0, 0, 0, 0}, {1, 0, 1, 0}, {19, 0, 1, 0}, {20, 0, 1, 0}, {21, 1, 1, 0}, {999, 1, 1, 0}};
        for (int[] d : due) {
            x.harm(0, d[0]);
            row("late on day " + d[0], k -> x.name(k, 3), NONE, d[1], d[2], d[3]);
            row("claim for it on day " + d[0], x::claim, 0, 100 * d[1], 100 * d[2], 100 * d[3]);
        }
    }

    // Section 2: "passed: it is not the HOLDER, and has no LEAVE"
    private static void namePassed() {
        KeepingHands x = new KeepingHands();
        x.pass(0, 1, 1, 0, false);
        x.pass(0, 2, 2, 0, true);
        x.pass(0, 3, 3, 0, false);
        x.harm(0, 1);
        row("hand 1 is the holder", k -> x.name(k, 4), NONE, 0, NONE, NONE);
        x.harm(0, 2);
        row("hand 2 is the holder", k -> x.name(k, 4), NONE, 1, 0, NONE);
        x.harm(0, 3);
        row("hand 3 is the holder", k -> x.name(k, 4), NONE, 1, 0, 0);
        x.pass(0, 3, 3, 0, true);
        row("hand 4 is the holder", k -> x.name(k, 4), NONE, 1, 0, 1, 0);
    }

    // Section 2: "term: TERM if the LAW in force LETS it for its KEEPING, else 0"
    private static void nameTerm() {
        KeepingHands x = lent(0, "free lets 1,3;work lets 3;any lets 2;");
        for (int term = 0; term < 4; term++) {
            x.pass(0, 0, 0, term, true);
        }
        for (int term = 0; term < 4; term++) {
            x.pass(5, 0, 0, term, true);
        }
        x.harm(0, 0);
        row("by the law", k -> x.name(k, 5), NONE, 0, 1, 2, 3, 0, 0, 2, 3);
        x.force(NONE);
        row("by none", k -> x.name(k, 5), NONE, 0, 0, 0, 0, 0, 0, 0, 0);
        row("they are told yet", k -> x.hand(k, 3), NONE, 0, 1, 2, 3, 0, 1, 2, 3);
    }

    // Section 2: "value; days: from its DAY to that of the HARM."
    private static void nameValueAndDays() {
        KeepingHands x = new KeepingHands();
        x.pass(0, 0, 0, 0, true);
        x.pass(0, 1, 0, 0, true);
        x.pass(0, 999, 0, 0, true);
        x.harm(0, 999);
        row("days", k -> x.name(k, 7), NONE, 999, 998, 0);
        x.harm(0, 1);
        row("fewer days", k -> x.name(k, 7), NONE, 1, 0, NONE);
        x.value(9999);
        row("value", k -> x.name(k, 6), NONE, 9999, 9999, NONE);
        x.value(0);
        row("no value", k -> x.name(k, 6), NONE, 0, 0, NONE);
    }

    // Promise 15: "NONE: it is HAND 0, behind the HOLDER, or there is no HARM."
    private static void nameNone() {
        KeepingHands x = lent(2, "any lets 1;");
        for (int hand = 0; hand < 3; hand++) {
            x.fact(hand, 0, true);
        }
        for (int what = 0; what < 8; what++) {
            int w = what;
            x.harm(NONE, 20);
            row("no harm, " + what, k -> x.name(k, w), NONE, NONE, NONE);
            x.harm(0, 9);
            row("all are behind the holder, " + what, k -> x.name(k, w), NONE, NONE, NONE);
            x.harm(0, 19);
            Check.due("hand 1 is the holder, " + what, w == 0 ? 1 : w == 6 ? 100 : w == 7 ? 9 : w == 3 ? 1 : 0,
                () -> x.name(1, w));
            Check.due("hand 2 is behind it, " + what, NONE, () -> x.name(2, w));
            Check.due("the owner, " + what, NONE, () -> x.name(0, w));
        }
    }

    // Promise 15 (by 9): no such HAND, another what; section 4: NoSuchElementException goes ahead
    private static void nameNoSuch() {
        Refused.outside("name of hand", 0, 3, Check.NO_SUCH, hand -> x -> x.name(hand, 0));
        Refused.outside("name of what", 0, 7, Check.WRONG_ARGUMENT, what -> x -> x.name(1, what));
        Refused.outside("name of what of the owner", 0, 7, Check.WRONG_ARGUMENT, what -> x -> x.name(0, what));
        Refused.outside("name of what behind the holder", 0, 7, Check.WRONG_ARGUMENT, what -> x -> x.name(3, what));
        Refused.outside("name of what of no hand", 0, 7, Check.NO_SUCH, what -> x -> x.name(4, what));
        KeepingHands x = new KeepingHands();
        Check.due("of what without a harm", Check.WRONG_ARGUMENT, () -> x.name(0, 8));
    }

    // Promise 16: "CLAIM (0 likewise)": of HAND 0, behind the HOLDER, without a HARM
    private static void claimLikewise() {
        KeepingHands x = lent(3, "any answers all;any owes 9999;");
        row("no harm", x::claim, 0, 0, 0, 0);
        x.harm(0, 9);
        row("all are behind the holder", x::claim, 0, 0, 0, 0);
        x.harm(0, 20);
        row("hand 2 is the holder", x::claim, 0, 9999, 9999, 0);
        x.harm(NONE, 20);
        row("no harm again", x::claim, 0, 0, 0, 0);
    }

    // Promise 17: "WHOM; NONE likewise."
    private static void whomLikewise() {
        KeepingHands x = lent(3, "");
        row("no harm", x::whom, NONE, NONE, NONE, NONE);
        x.harm(0, 9);
        row("all are behind the holder", x::whom, NONE, NONE, NONE, NONE);
        x.harm(0, 20);
        row("hand 2 is the holder", x::whom, NONE, 0, 1, NONE);
        x.harm(NONE, 20);
        row("no harm again", x::whom, NONE, NONE, NONE, NONE);
    }

    // Section 2: "to HAND k - 1; but to HAND 0, if that one has passed (1) itself."
    private static void whomPassed() {
        KeepingHands x = new KeepingHands();
        for (int k = 1; k <= 12; k++) {
            x.pass(LENT, k, k, 0, k % 3 != 0);
        }
        x.harm(0, 12);
        row("each third passed without leave", x::whom, NONE, 0, 1, 2, 0, 4, 5, 0, 7, 8, 0, 10, 11);
        x.harm(0, 3);
        row("the holder has not passed", x::whom, NONE, 0, 1, 2, NONE, NONE, NONE, NONE, NONE, NONE, NONE, NONE, NONE);
        KeepingHands y = new KeepingHands();
        for (int k = 1; k <= 12; k++) {
            y.pass(LENT, k, k, 0, false);
        }
        y.harm(0, 12);
        row("none had leave", y::whom, NONE, 0, 0, 0, 0, 0, 0, 0, 0, 0, 0, 0, 0);
    }

    // Promise 18: "What a HAND PAYS in the END (0 likewise)."
    private static void paysLikewise() {
        KeepingHands x = lent(3, "any answers all;");
        row("no harm", x::pays, 0, 0, 0, 0);
        x.harm(0, 9);
        row("all are behind the holder", x::pays, 0, 0, 0, 0);
        x.harm(0, 20);
        row("hand 2 is the holder", x::pays, 0, 100, 100, 0);
        x.harm(NONE, 20);
        row("no harm again", x::pays, 0, 0, 0, 0);
    }

    // Section 2, END: "the lesser of its CLAIM and of its PURSE and what it gets": a PURSE at the edges of the CLAIM
    private static void paysTheLesser() {
        KeepingHands x = lent(1, "any answers all;any owes 50;");
        x.harm(0, 10);
        int[] purses = {0, 1, 49, 50, 51, 9999};
        int[] due = {0, 1, 49, 50, 50, 50};
        for (int i = 0; i < purses.length; i++) {
            x.purse(1, purses[i]);
            row("by a purse of " + purses[i], x::pays, 0, due[i]);
            row("borne by a purse of " + purses[i], x::bears, 100 - due[i], due[i]);
        }
        KeepingHands y = lent(1, "any answers all;any owes 9999;");
        y.harm(0, 10);
        y.value(9999);
        row("the most", y::pays, 0, 9999);
        y.purse(1, 9998);
        row("one less", y::pays, 0, 9998);
        row("one is left", y::bears, 1, 9998);
    }

    // Section 2, END: "and what it gets from those who answer to it"
    private static void paysWhatItGets() {
        KeepingHands x = lent(3, "any answers all;any owes 60;");
        x.harm(0, 30);
        x.purse(1, 0);
        x.purse(2, 0);
        row("empty purses pay what they get", x::pays, 0, 60, 60, 60);
        x.purse(3, 20);
        row("and no more", x::pays, 0, 20, 20, 20);
        x.purse(2, 39);
        row("one lacks", x::pays, 0, 59, 59, 20);
        x.purse(2, 40);
        row("the whole", x::pays, 0, 60, 60, 20);
        x.purse(2, 41);
        row("no more than the claim", x::pays, 0, 60, 60, 20);
        KeepingHands y = lent(2, "any answers all;any owes 9999;");
        y.value(9999);
        y.harm(0, 20);
        row("the most, and what it gets", y::pays, 0, 9999, 9999);
        row("bears of it", y::bears, 0, 0, 9999);
    }

    // Section 2, END: "then those who answer to HAND 0 pay, by numbers, no more than what VALUE still lacks"
    private static void paysWhatValueLacks() {
        KeepingHands x = lent(0, "any answers all;any owes 40;");
        for (int k = 1; k <= 4; k++) {
            x.pass(LENT, 10, 10, 0, false);
        }
        x.harm(0, 10);
        int[] values = {0, 1, 39, 40, 41, 80, 100, 120, 159, 160, 161};
        for (int value : values) {
            x.value(value);
            int[] due = new int[5];
            int lacks = value;
            for (int k = 1; k <= 4; k++) {
                due[k] = Math.min(40, lacks);
                lacks -= due[k];
            }
            row("pays of " + value, x::pays, due);
            due[0] = lacks;
            row("bears of " + value, x::bears, due);
        }
        x.value(100);
        x.purse(1, 0);
        x.purse(3, 15);
        row("purses", x::pays, 0, 0, 40, 15, 40);
    }

    // Section 2: "of HAND 0: VALUE less what it gets"
    private static void bearsOfTheOwner() {
        KeepingHands x = lent(1, "any answers all;any owes value-1;");
        x.harm(0, 10);
        for (int value : new int[] {0, 1, 2, 9999}) {
            x.value(value);
            Check.due("of " + value, Math.min(1, value), () -> x.bears(0));
        }
        x.harm(0, 9);
        Check.due("with the owner itself", 9999, () -> x.bears(0));
        x.value(0);
        Check.due("nothing", 0, () -> x.bears(0));
        x.purse(0, 0);
        x.value(9999);
        Check.due("its purse is no matter", 9999, () -> x.bears(0));
    }

    // Section 2: "BEARS of a HAND: what it PAYS less what it gets": it may be below 0.
    private static void bearsLessThanNothing() {
        KeepingHands x = lent(2, "lent answers all if fault=1;any owes 9999;");
        x.harm(0, 20);
        x.fact(2, 0, true);
        row("one gets all", x::bears, 100, -9999, 9999);
        x.purse(2, 1);
        row("one gets one", x::bears, 100, -1, 1);
        x.purse(2, 0);
        row("one gets nothing", x::bears, 100, 0, 0);
    }

    // Section 2: "0 of those behind the HOLDER. (Without a HARM, all 0.)"; promise 19: "What it BEARS."
    private static void bearsBehindTheHolder() {
        KeepingHands x = lent(3, "any answers all;");
        row("no harm", x::bears, 0, 0, 0, 0);
        x.harm(0, 30);
        row("hand 3 is the holder", x::bears, 0, 0, 0, 100);
        x.harm(0, 29);
        row("hand 2 is the holder", x::bears, 0, 0, 100, 0);
        x.harm(0, 9);
        row("the owner is", x::bears, 100, 0, 0, 0);
        x.harm(NONE, 30);
        row("no harm again", x::bears, 0, 0, 0, 0);
    }

    // Section 2, END: "from the HOLDER on down to HAND 1": with twelve HANDS
    private static void bearsOfTwelve() {
        KeepingHands x = lent(12, "any answers all;");
        x.harm(0, 120);
        row("the last bears all", x::bears, 0, 0, 0, 0, 0, 0, 0, 0, 0, 0, 0, 0, 100);
        for (int k = 1; k <= 12; k++) {
            x.purse(k, 5);
        }
        row("each bears five", x::bears, 40, 5, 5, 5, 5, 5, 5, 5, 5, 5, 5, 5, 5);
        row("each pays all it has and gets", x::pays, 0, 60, 55, 50, 45, 40, 35, 30, 25, 20, 15, 10, 5);
        x.harm(0, 119);
        row("each but the last", x::bears, 45, 5, 5, 5, 5, 5, 5, 5, 5, 5, 5, 5, 0);
    }

    // Promise 20: "Whether it must swear to be free": not HAND 0, none behind the HOLDER, none without a HARM
    private static void mustLikewise() {
        KeepingHands x = lent(2, "any swears all;");
        row("no harm", k -> x.must(k) ? 1 : 0, 0, 0, 0);
        x.harm(0, 9);
        row("all are behind the holder", k -> x.must(k) ? 1 : 0, 0, 0, 0);
        x.harm(0, 10);
        row("hand 1 is the holder", k -> x.must(k) ? 1 : 0, 0, 1, 0);
        x.harm(0, 20);
        row("hand 2 is the holder", k -> x.must(k) ? 1 : 0, 0, 1, 1);
        x.value(0);
        row("though nothing is owed", k -> x.must(k) ? 1 : 0, 0, 1, 1);
        x.harm(0, 10);
        row("hand 1 is the holder again", k -> x.must(k) ? 1 : 0, 0, 1, 0);
        x.harm(0, 9);
        row("all are behind the holder again", k -> x.must(k) ? 1 : 0, 0, 0, 0);
        x.harm(0, 20);
        row("two again", k -> x.must(k) ? 1 : 0, 0, 1, 1);
        x.harm(NONE, 20);
        row("no harm again", k -> x.must(k) ? 1 : 0, 0, 0, 0);
    }

    // Promise 20: "it has SWEARS, and no ANSWERS, and has not sworn."
    private static void mustThreeWays() {
        KeepingHands x = lent(1, "any swears all if use=1;any answers all if fault=1;");
        x.harm(0, 10);
        for (int bits = 0; bits < 8; bits++) {
            x.fact(1, 0, (bits & 1) > 0);
            x.fact(1, 2, (bits & 2) > 0);
            x.fact(1, 3, (bits & 4) > 0);
            Check.dueIf("must " + bits, bits == 2, () -> x.must(1));
        }
    }

    // Promise 21: "By how much less a HAND would BEAR if it swore (.. 0 if it has sworn)."
    private static void freesAndSworn() {
        KeepingHands x = lent(3, "any swears all;any answers all if fault=1;any owes 60;");
        row("no harm", x::frees, 0, 0, 0, 0);
        x.harm(0, 20);
        row("an oath frees of all", x::frees, 0, 60, 60, 0);
        x.fact(1, 3, true);
        row("one has sworn", x::frees, 0, 0, 60, 0);
        x.fact(2, 0, true);
        row("the other answers", x::frees, 0, 0, 0, 0);
        x.fact(2, 0, false);
        x.purse(2, 0);
        row("the other has nothing", x::frees, 0, 0, 0, 0);
        x.fact(1, 3, false);
        x.purse(2, 25);
        row("by what it pays", x::frees, 0, 60, 25, 0);
        x.value(0);
        row("nothing is lacking to the owner", x::frees, 0, 0, 25, 0);
    }

    // Promise 21: "(all else as it is ..)"
    private static void freesAllElse() {
        Refused.is("frees of one that does not swear", 0, Refused::plenty, x -> x.frees(0));
        Refused.is("frees of one that does", 30, ChainEdgesTest::swearing, x -> x.frees(1));
        KeepingHands x = swearing();
        x.fact(1, 3, true);
        Check.due("frees of one that has sworn", 0, () -> x.frees(1));
        Check.dueIf("it has yet", true, () -> x.fact(1, 3, true));
    }

    private static KeepingHands swearing() {
        KeepingHands x = Refused.plenty();
        x.harm(LOST, 19);
        return x;
    }

    // Promises 16 to 21 (by 9): "NoSuchElementException: no such HAND (so below)"
    private static void noSuchHands() {
        Refused.outside("claim", 0, 3, Check.NO_SUCH, hand -> x -> x.claim(hand));
        Refused.outside("whom", 0, 3, Check.NO_SUCH, hand -> x -> x.whom(hand));
        Refused.outside("pays", 0, 3, Check.NO_SUCH, hand -> x -> x.pays(hand));
        Refused.outside("bears", 0, 3, Check.NO_SUCH, hand -> x -> x.bears(hand));
        Refused.outside("must", 0, 3, Check.NO_SUCH, hand -> x -> x.must(hand) ? 1 : 0);
        Refused.outside("frees", 0, 3, Check.NO_SUCH, hand -> x -> x.frees(hand));
        for (int hands = 0; hands < ALL_HANDS; hands++) {
            KeepingHands x = lent(hands, "");
            int none = hands + 1;
            Check.due("claim of hand " + none, Check.NO_SUCH, () -> x.claim(none));
            Check.due("whom of hand " + none, Check.NO_SUCH, () -> x.whom(none));
            Check.due("pays of hand " + none, Check.NO_SUCH, () -> x.pays(none));
            Check.due("bears of hand " + none, Check.NO_SUCH, () -> x.bears(none));
            Check.due("must of hand " + none, Check.NO_SUCH, () -> x.must(none) ? 1 : 0);
            Check.due("frees of hand " + none, Check.NO_SUCH, () -> x.frees(none));
            Check.due("bears of hand " + hands, 0, () -> x.bears(none - 1));
        }
    }

    // Promise 36: "What a HAND would BEAR by another LAW."
    private static void besideEdges() {
        KeepingHands x = lent(2, "any answers all;");
        Check.law(x, "");
        Check.law(x, "any answers all;any owes 9999;");
        Check.law(x, "any swears all;any owes 30;");
        row("no harm", k -> x.beside(0, k), 0, 0, 0);
        x.harm(0, 10);
        row("by law 0", k -> x.beside(0, k), 0, 100, 0);
        row("by law 1, the owner bears", k -> x.beside(1, k), 100, 0, 0);
        row("by law 2, no more than lacks", k -> x.beside(2, k), 0, 100, 0);
        row("by law 3, the last", k -> x.beside(3, k), 70, 30, 0);
        x.fact(1, 3, true);
        row("by law 3, one swore", k -> x.beside(3, k), 100, 0, 0);
        x.force(NONE);
        row("by law 0, though none is in force", k -> x.beside(0, k), 0, 100, 0);
        x.force(0);
        row("by law 0, which is itself in force", k -> x.beside(0, k), 0, 100, 0);
        Refused.is("beside by the law in force", 19, Refused::plenty, y -> y.beside(0, 0));
        Refused.is("beside by another", 80, Refused::plenty, y -> y.beside(1, 2));
    }

    // Promise 36: no such LAW (by 5), no such HAND (by 9); section 4: NoSuchElementException goes ahead
    private static void besideNoSuch() {
        Refused.outside("beside by law", 0, 1, Check.WRONG_ARGUMENT, law -> x -> x.beside(law, 0));
        Refused.outside("beside of hand", 0, 3, Check.NO_SUCH, hand -> x -> x.beside(0, hand));
        Refused.outside("beside of no hand by law", 0, 1, Check.NO_SUCH, law -> x -> x.beside(law, 4));
        Refused.is("beside by none", Check.WRONG_ARGUMENT, KeepingHands::new, x -> x.beside(0, 0));
    }
}
