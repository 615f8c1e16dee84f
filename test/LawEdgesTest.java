/** Promises 1 to 7 and section 1: each sentence that names an edge, told above the test that stands for it. */
public final class LawEdgesTest {
    private static final int NONE = KeepingHands.NONE;
    private static final int BLANKS = 0x20202020;

    public static void main(String[] args) {
        newObject();
        feedHighestFirst();
        feedHowManyThereAre();
        feedFull();
        lawFirstBytes();
        lawOfNoBytes();
        lawEmptiesTheTape();
        lawFault();
        lawFaultLeavesNothing();
        lawFull();
        lawFullIsNotRead();
        lawOfTooMany();
        lawOfTooManyWhenFull();
        faultOfTheLatest();
        faultWithout();
        forceNone();
        forceNoSuch();
        wordsEdges();
        wordsBits();
        wordsNoSuchLaw();
        wordsNoSuchCase();
        wordsNoSuchNames();
        letsEdges();
        letsNoSuch();
        Check.end();
    }

    private static KeepingHands with(String... laws) {
        KeepingHands x = new KeepingHands();
        for (int i = 0; i < laws.length; i++) {
            int number = i;
            Check.due("law " + laws[i], number, () -> Check.law(x, laws[number]));
        }
        return x;
    }

    // Promise 1: "No LAWS, a CHAIN of HAND 0 alone."
    private static void newObject() {
        KeepingHands x = new KeepingHands();
        Check.due("no laws", 0, () -> x.count(0));
        Check.due("law 0 is none", Check.WRONG_ARGUMENT, () -> x.words(0, 0, 0, 0, 0, 0));
        Check.due("hand 0", 1, () -> x.count(1));
        Check.due("its purse", 9999, () -> x.hand(0, 5));
        Check.due("hand 0 alone", Check.NO_SUCH, () -> x.hand(1, 5));
        Check.due("no questions", 0, () -> x.count(2));
        Check.due("no goods", 0, () -> x.count(3));
        Check.due("no puttings", 0, () -> x.count(4));
        Check.due("no images", 0, () -> x.count(5));
        Check.due("no tape", 0, () -> x.count(6));
        Check.due("value", 100, () -> x.count(7));
        Check.due("no fault", NONE, x::fault);
        Check.due("no harm", NONE, x::holder);
        Check.due("nobody bears", 0, () -> x.bears(0));
        Check.due("nobody is wrong", NONE, x::wrong);
        Check.due("title", 0, x::title);
        Check.due("found", 9999, () -> x.found(0, 9999));
        Check.due("nothing to settle", 0, x::least);
        Check.due("one case", 0, () -> x.inCase(0, 0));
        Check.due("no other case", Check.WRONG_ARGUMENT, () -> x.inCase(1, 0));
        Check.due("nothing is lost", 0, () -> x.share(0, 0));
        Check.due("none in force", NONE, () -> x.force(NONE));
    }

    // Promise 2: "Twenty bytes come on the TAPE, of each number the highest first"
    private static void feedHighestFirst() {
        // A byte that can't stand in a law shows by its place where it came; of a number below 0 the highest is over 127.
        int[] marks = {0x80202020, 0x20ff2020, 0x20208020, 0x202020ff};
        for (int at = 0; at < 20; at++) {
            int[] five = {BLANKS, BLANKS, BLANKS, BLANKS, BLANKS};
            five[at / 4] = marks[at % 4];
            KeepingHands x = new KeepingHands();
            x.feed(five[0], five[1], five[2], five[3], five[4]);
            Check.due("a mark at " + at, -9, () -> x.law(20));
            Check.due("the place of the mark at " + at, at, x::fault);
        }
        for (int number : new int[] {0, -1, Integer.MIN_VALUE, Integer.MAX_VALUE, 0x00202020}) {
            KeepingHands x = new KeepingHands();
            x.feed(BLANKS, BLANKS, BLANKS, BLANKS, number);
            Check.due("no blank is " + number, -9, () -> x.law(20));
            Check.due("the place of " + number, 16, x::fault);
        }
    }

    // Promise 2: "how many there are"
    private static void feedHowManyThereAre() {
        KeepingHands x = new KeepingHands();
        for (int many = 20; many <= 500; many += 20) {
            int due = many;
            Check.due("there are " + many, due, () -> x.feed(BLANKS, BLANKS, BLANKS, BLANKS, BLANKS));
            Check.due("count of " + many, due, () -> x.count(6));
        }
        x.law(500);
        Check.due("twenty on an empty tape", 20, () -> x.feed(BLANKS, BLANKS, BLANKS, BLANKS, BLANKS));
    }

    private static KeepingHands fullTape() {
        KeepingHands x = Refused.plenty();
        x.law(0);
        Check.feed(x, "lent twice;" + " ".repeat(489));
        return x;
    }

    // Promise 2: "NONE, doing nothing, if there would be more than 500."
    private static void feedFull() {
        Refused.is("feed of a full tape", NONE, LawEdgesTest::fullTape, x -> x.feed(-1, -1, -1, -1, -1));
        KeepingHands x = fullTape();
        for (int i = 0; i < 30; i++) {
            Check.due("feed of a full tape, again", NONE, () -> x.feed(-1, -1, -1, -1, -1));
        }
        Check.due("500 bytes", 500, () -> x.count(6));
        Check.due("all of them are as they were", 3, () -> x.law(500));
        Check.due("room again", 20, () -> x.feed(0, 0, 0, 0, 0));
    }

    // Promise 3: "The first n bytes of the TAPE (empty then) are a LAW: its number"
    private static void lawFirstBytes() {
        String text = "any twice;any lets 1;any lets 2;any lets 3;             ";
        int[] ends = {10, 21, 32, 43};
        for (int i = 0; i < 4; i++) {
            int end = ends[i];
            KeepingHands x = new KeepingHands();
            Check.feed(x, text);
            Check.due("the first " + end, 0, () -> x.law(end));
            for (int term = 0; term < 4; term++) {
                int t = term;
                Check.dueIf("of the first " + end + " term " + t, t <= i, () -> x.lets(0, 3, t));
            }
        }
    }

    // Promise 3: the first n bytes, n being 0: a LAW without CLAUSES (section 1: { CLAUSE ";" } may be none).
    private static void lawOfNoBytes() {
        KeepingHands x = new KeepingHands();
        Check.due("no bytes of none", 0, () -> x.law(0));
        Check.feed(x, "####################");
        Check.due("no bytes of twenty", 1, () -> x.law(0));
        Check.due("no fault", NONE, x::fault);
        Check.due("two laws", 2, () -> x.count(0));
        for (int law = 0; law < 2; law++) {
            int n = law;
            Check.due("no answers", 0, () -> x.words(n, 0, 0, 9, 0, 0));
            Check.due("no swears", 0, () -> x.words(n, 0, 0, 9, 0, 1));
            Check.due("value is owed", 9, () -> x.words(n, 0, 0, 9, 0, 2));
            Check.dueIf("nothing twice", false, () -> x.lets(n, 0, 0));
            Check.dueIf("nothing is let", false, () -> x.lets(n, 0, 1));
        }
    }

    // Promise 3: "(empty then)": of all its bytes, of some, of none; of a LAW and of a FAULT.
    private static void lawEmptiesTheTape() {
        for (int n : new int[] {0, 1, 10, 19, 20}) {
            KeepingHands x = new KeepingHands();
            Check.feed(x, "any twice;          ");
            x.law(n);
            Check.due("the tape after law of " + n, 0, () -> x.count(6));
            Check.due("nothing is left of it", Check.WRONG_ARGUMENT, () -> x.law(1));
        }
    }

    // Promise 3: "or its FAULT less 10"
    private static void lawFault() {
        KeepingHands x = new KeepingHands();
        Check.due("fault 1", -9, () -> Check.law(x, "any any;"));
        Check.due("fault 2", -8, () -> Check.law(x, "any owes 10000;"));
        Check.due("fault 3", -7, () -> Check.law(x, "any owes ((((((("));
        Check.due("no law of these", 0, () -> x.count(0));
        Check.due("the first law is 0 yet", 0, () -> Check.law(x, "any twice;"));
        Check.due("a fault behind a law", -9, () -> Check.law(x, "any lets 1;#"));
        Check.due("one law", 1, () -> x.count(0));
        Check.dueIf("it is as it was", true, () -> x.lets(0, 0, 0));
        Check.dueIf("and has no more", false, () -> x.lets(0, 0, 1));
        Check.due("law 1 is none", Check.WRONG_ARGUMENT, () -> x.force(1));
        Check.due("the second law is 1", 1, () -> Check.law(x, ""));
    }

    // Promise 3: "or its FAULT less 10": then it is no LAW, and nothing of it is in the one that is read next.
    private static void lawFaultLeavesNothing() {
        String[] faults = {"any answers all;any swears all;any owes 5;any lets 1,2,3;any twice;mixed last;#",
            "any twice;".repeat(24) + "any", "any owes ((((((1+(", "any answers all if not not not not not not ",
            "any answers all if [[[[[[1=10000", "any owes 1" + "+1".repeat(240) + "#"};
        for (String text : faults) {
            KeepingHands x = new KeepingHands();
            Check.dueIf("a fault in " + text, true, () -> Check.law(x, text) < -6);
            Check.due("an empty law", 0, () -> Check.law(x, ""));
            Check.due("no answers", 0, () -> x.words(0, 0, 0, 9, 0, 0));
            Check.due("no swears", 0, () -> x.words(0, 0, 0, 9, 0, 1));
            Check.due("value is owed", 9, () -> x.words(0, 0, 0, 9, 0, 2));
            Check.dueIf("nothing twice", false, () -> x.lets(0, 0, 0));
            Check.dueIf("nothing is let", false, () -> x.lets(0, 0, 1));
            x.force(0);
            x.put(0, 1);
            Check.due("nothing mixed", 0, () -> x.share(0, 1));
            Check.dueIf("a fault again", true, () -> Check.law(x, text) < -6);
            Check.due("a law of one harm, one term", 1, () -> Check.law(x, "any answers worn;any lets 2;"));
            Check.due("no other harm", 0, () -> x.words(1, 32, 0, 9, 0, 0));
            Check.dueIf("no other term", false, () -> x.lets(1, 0, 1));
            for (int i = 0; i < 3; i++) {
                Check.dueIf("a fault once more", true, () -> Check.law(x, text) < -6);
            }
            Check.due("six are open again", 2, () -> Check.law(x, "any owes ((((((1))))));"));
            Check.due("and its sum", 1, () -> x.words(2, 0, 0, 9, 0, 2));
            Check.due("24 clauses again", 3, () -> Check.law(x, "any owes 7;" + "any twice;".repeat(23)));
            Check.due("the first of them", 7, () -> x.words(3, 0, 0, 0, 0, 2));
        }
    }

    // Promise 3: "-1: there are 4"; section 1: "LAWS, numbered from 0 on, 4 at most"
    private static void lawFull() {
        KeepingHands x = with("any twice;", "any lets 1;", "any lets 2;", "any lets 3;");
        Check.due("a fifth", -1, () -> Check.law(x, "any owes 1;any lets 1,2,3;any twice;"));
        Check.due("a sixth", -1, () -> Check.law(x, ""));
        Check.due("four laws", 4, () -> x.count(0));
        for (int law = 0; law < 4; law++) {
            for (int term = 0; term < 4; term++) {
                int n = law;
                int t = term;
                Check.dueIf("law " + n + " as it was, term " + t, n == t, () -> x.lets(n, 4, t));
            }
        }
        Check.due("law 3 in force", NONE, () -> x.force(3));
        Check.due("law 4 is none", Check.WRONG_ARGUMENT, () -> x.force(4));
    }

    // Promise 3: "(the TAPE is empty then, too; it is not read: no FAULT)"
    private static void lawFullIsNotRead() {
        KeepingHands x = with("", "", "");
        Check.due("a fault", -9, () -> Check.law(x, "  #"));
        Check.due("its place", 2, x::fault);
        Check.due("the fourth", 3, () -> Check.law(x, "any twice;"));
        Check.feed(x, "any twice;any any any");
        Check.due("a text that has a fault", -1, () -> x.law(25));
        Check.due("the tape is empty then", 0, () -> x.count(6));
        Check.due("no fault", NONE, x::fault);
        Check.dueIf("the fourth stays", true, () -> x.lets(3, 0, 0));
    }

    // Promise 3: "IllegalArgumentException: n is not 0 to the TAPE's bytes (it stays)."
    private static void lawOfTooMany() {
        Refused.outside("law of", 0, 20, Check.WRONG_ARGUMENT, n -> x -> x.law(n));
        Refused.is("law of one of none", Check.WRONG_ARGUMENT, KeepingHands::new, x -> x.law(1));
        Refused.is("law of 501 of 500", Check.WRONG_ARGUMENT, LawEdgesTest::fullTape, x -> x.law(501));
        Refused.is("law of -1 of 500", Check.WRONG_ARGUMENT, LawEdgesTest::fullTape, x -> x.law(-1));
        KeepingHands x = fullTape();
        Check.due("law of 500 of 500", 3, () -> x.law(500));
    }

    private static KeepingHands fourLaws() {
        KeepingHands x = Refused.plenty();
        x.law(20);
        x.law(0);
        Check.feed(x, "#");
        x.law(0);
        Check.feed(x, "##");
        return x;
    }

    // Section 4: "an exception ahead of -1, -2": law() of too many, though there are 4.
    private static void lawOfTooManyWhenFull() {
        Refused.is("law of 21 of 20, four laws", Check.WRONG_ARGUMENT, LawEdgesTest::fourLaws, x -> x.law(21));
        Refused.is("law of -1, four laws", Check.WRONG_ARGUMENT, LawEdgesTest::fourLaws, x -> x.law(-1));
        KeepingHands x = fourLaws();
        Check.due("law of 20 of 20, four laws", -1, () -> x.law(20));
    }

    // Promise 4: "The place of the FAULT of the latest law() that threw nothing"
    private static void faultOfTheLatest() {
        KeepingHands x = new KeepingHands();
        Check.due("of none yet", NONE, x::fault);
        Check.due("a fault at 0", -9, () -> Check.law(x, "#"));
        Check.due("place 0", 0, x::fault);
        Check.due("a fault at 4", -9, () -> Check.law(x, "any #"));
        Check.due("place 4", 4, x::fault);
        Check.due("law that throws", Check.WRONG_ARGUMENT, () -> x.law(1));
        Check.due("law that throws too", Check.WRONG_ARGUMENT, () -> x.law(-1));
        Check.due("place 4 yet", 4, x::fault);
        Check.due("a fault at the last byte of all", -9, () -> Check.law(x, " ".repeat(499) + "#"));
        Check.due("place 499", 499, x::fault);
        Check.due("a fault at the greatest length", -9, () -> Check.law(x, " ".repeat(497) + "any"));
        Check.due("place 500", 500, x::fault);
    }

    // Promise 4: "NONE without."
    private static void faultWithout() {
        KeepingHands x = new KeepingHands();
        Check.due("a new object", NONE, x::fault);
        for (int i = 0; i < 4; i++) {
            Check.law(x, "#");
            Check.due("a law without", i, () -> Check.law(x, "any twice;"));
            Check.due("none without", NONE, x::fault);
        }
        Check.due("law that throws", Check.WRONG_ARGUMENT, () -> x.law(1));
        Check.due("none yet", NONE, x::fault);
        Check.due("there are 4", -1, () -> Check.law(x, "#"));
        Check.due("none of what is not read", NONE, x::fault);
    }

    // Promise 5: "A LAW (NONE: none) is in force: the one that was."
    private static void forceNone() {
        KeepingHands x = with("any answers all;", "any answers all;any owes 1;", "", "any answers all;any owes 9999;");
        x.pass(0, 0, 0, 0, true);
        x.harm(0, 0);
        int[] force = {NONE, 0, 3, 2, 1, 1, NONE, NONE, 3};
        int[] claims = {0, 100, 9999, 0, 1, 1, 0, 0, 9999};
        int before = NONE;
        for (int i = 0; i < force.length; i++) {
            int law = force[i];
            int was = before;
            Check.due("force " + law, was, () -> x.force(law));
            Check.due("claim by " + law, claims[i], () -> x.claim(1));
            before = law;
        }
    }

    // Promise 5: "IllegalArgumentException: no such LAW (so below)."
    private static void forceNoSuch() {
        Refused.outside("force of", NONE, 1, Check.WRONG_ARGUMENT, law -> x -> x.force(law));
        Refused.is("force of a first law that is none", Check.WRONG_ARGUMENT, KeepingHands::new, x -> x.force(0));
        Refused.is("force of a fifth", Check.WRONG_ARGUMENT, LawEdgesTest::fourLaws, x -> x.force(4));
        KeepingHands x = fourLaws();
        Check.due("force of the fourth", 0, () -> x.force(3));
    }

    // Promise 6: the CASE ("0 to 1,151"), "term (0 to 3), value, days (0 to 9,999), or what", at their edges.
    private static void wordsEdges() {
        KeepingHands x = with("any answers all if term=3 and value=9999 and days=9999;any owes term+value+days;",
            "any swears all if term=0 and value=0 and days=0;", "work answers forced if fault+there+use+late+passed=5;",
            "free swears worn if fault+there+use+late+passed=0;");
        for (int of : new int[] {0, 1151}) {
            Check.due("the most", 1, () -> x.words(0, of, 3, 9999, 9999, 0));
            Check.due("the most is no oath", 0, () -> x.words(0, of, 3, 9999, 9999, 1));
            Check.due("the most owed", 9999, () -> x.words(0, of, 3, 9999, 9999, 2));
            Check.due("the least", 1, () -> x.words(1, of, 0, 0, 0, 1));
            Check.due("the least is no answer", 0, () -> x.words(1, of, 0, 0, 0, 0));
            Check.due("the least owed", 0, () -> x.words(1, of, 0, 0, 0, 2));
            Check.due("not the most term", 0, () -> x.words(0, of, 2, 9999, 9999, 0));
            Check.due("not the most value", 0, () -> x.words(0, of, 3, 9998, 9999, 0));
            Check.due("not the most days", 0, () -> x.words(0, of, 3, 9999, 9998, 0));
            Check.due("not the least term", 0, () -> x.words(1, of, 1, 0, 0, 1));
            Check.due("not the least value", 0, () -> x.words(1, of, 0, 1, 0, 1));
            Check.due("not the least days", 0, () -> x.words(1, of, 0, 0, 1, 1));
            Check.due("the last case", of == 1151 ? 1 : 0, () -> x.words(2, of, 0, 0, 0, 0));
            Check.due("the first case", of == 0 ? 1 : 0, () -> x.words(3, of, 0, 0, 0, 1));
        }
    }

    // Promise 6: "For a KEEPING and a HARM, by names (fault 1, there 2, use 4, late 8, passed 16)": at the edges of each.
    private static void wordsBits() {
        String[] names = {"fault", "there", "use", "late", "passed"};
        for (int i = 0; i < 5; i++) {
            KeepingHands x = with("any answers all if " + names[i] + "=1;", "any answers all if " + names[i] + "=0;");
            int bit = 1 << i;
            for (int of : new int[] {0, 31, 32, 160, 192, 1120}) {
                Check.due(names[i] + " alone", 1, () -> x.words(0, of / 32 * 32 + bit, 0, 0, 0, 0));
                Check.due("all but " + names[i], 0, () -> x.words(0, of / 32 * 32 + 31 - bit, 0, 0, 0, 0));
                Check.due("not " + names[i] + " alone", 0, () -> x.words(1, of / 32 * 32 + bit, 0, 0, 0, 0));
                Check.due("not: all but " + names[i], 1, () -> x.words(1, of / 32 * 32 + 31 - bit, 0, 0, 0, 0));
            }
        }
        String[] keepings = {"free", "paid", "lent", "hired", "pledge", "work"};
        String[] harms = {"worn", "hurt", "died", "lost", "stolen", "forced"};
        for (int k = 0; k < 6; k++) {
            for (int h = 0; h < 6; h++) {
                KeepingHands x = with(keepings[k] + " answers " + harms[h] + ";");
                int first = 32 * (6 * k + h);
                for (int of : new int[] {first - 1, first, first + 31, first + 32}) {
                    if (of >= 0 && of <= 1151) {
                        Check.due(keepings[k] + " " + harms[h] + " in " + of, of / 32 == first / 32 ? 1 : 0,
                            () -> x.words(0, of, 0, 0, 0, 0));
                    }
                }
            }
        }
    }

    // Promise 6 (by 5): "IllegalArgumentException: no such LAW (so below)."
    private static void wordsNoSuchLaw() {
        Refused.outside("words of law", 0, 1, Check.WRONG_ARGUMENT, law -> x -> x.words(law, 0, 0, 0, 0, 0));
        Refused.is("words of none", Check.WRONG_ARGUMENT, KeepingHands::new, x -> x.words(0, 0, 0, 0, 0, 0));
        KeepingHands x = Refused.plenty();
        Check.due("words of the last law", 1, () -> x.words(1, 0, 0, 0, 0, 0));
    }

    // Promise 6: "IllegalArgumentException: also the CASE (32 times 6 KEEPING and HARM, and bits: 0 to 1,151)"
    private static void wordsNoSuchCase() {
        Refused.outside("words of case", 0, 1151, Check.WRONG_ARGUMENT, of -> x -> x.words(0, of, 0, 0, 0, 0));
        Refused.outside("words of case", 0, 1151, Check.WRONG_ARGUMENT, of -> x -> x.words(0, of, 0, 0, 0, 2));
    }

    // Promise 6: "IllegalArgumentException: also .. term (0 to 3), value, days (0 to 9,999), or what."
    private static void wordsNoSuchNames() {
        Refused.outside("words by term", 0, 3, Check.WRONG_ARGUMENT, term -> x -> x.words(0, 0, term, 0, 0, 0));
        Refused.outside("words by value", 0, 9999, Check.WRONG_ARGUMENT, value -> x -> x.words(0, 0, 0, value, 0, 1));
        Refused.outside("words by days", 0, 9999, Check.WRONG_ARGUMENT, days -> x -> x.words(0, 0, 0, 0, days, 2));
        Refused.outside("words of what", 0, 2, Check.WRONG_ARGUMENT, what -> x -> x.words(0, 0, 0, 0, 0, what));
    }

    // Promise 7: "Whether a LAW LETS a TERM (1 to 3) for a KEEPING; or, with 0, has TWICE for it."
    private static void letsEdges() {
        String[] keepings = {"free", "paid", "lent", "hired", "pledge", "work"};
        for (int own = 0; own < 6; own++) {
            KeepingHands x = with(keepings[own] + " lets 1;", keepings[own] + " lets 3;", keepings[own] + " twice;",
                keepings[own] + " lets 2;" + keepings[own] + " twice;");
            for (int asked = 0; asked < 6; asked++) {
                for (int term = 0; term < 4; term++) {
                    int k = asked;
                    int t = term;
                    boolean is = own == asked;
                    String what = keepings[own] + " asked of " + keepings[k] + " term " + t;
                    Check.dueIf("lets 1: " + what, is && t == 1, () -> x.lets(0, k, t));
                    Check.dueIf("lets 3: " + what, is && t == 3, () -> x.lets(1, k, t));
                    Check.dueIf("twice: " + what, is && t == 0, () -> x.lets(2, k, t));
                    Check.dueIf("lets 2 and twice: " + what, is && t % 2 == 0, () -> x.lets(3, k, t));
                }
            }
        }
    }

    // Promise 7: "IllegalArgumentException: also KEEPING, TERM."
    private static void letsNoSuch() {
        Refused.outside("lets of law", 0, 1, Check.WRONG_ARGUMENT, law -> x -> x.lets(law, 0, 0) ? 1 : 0);
        Refused.outside("lets of keeping", 0, 5, Check.WRONG_ARGUMENT, k -> x -> x.lets(0, k, 0) ? 1 : 0);
        Refused.outside("lets of keeping", 0, 5, Check.WRONG_ARGUMENT, k -> x -> x.lets(0, k, 1) ? 1 : 0);
        Refused.outside("lets of term", 0, 3, Check.WRONG_ARGUMENT, term -> x -> x.lets(0, 0, term) ? 1 : 0);
        Refused.is("lets of none", Check.WRONG_ARGUMENT, KeepingHands::new, x -> x.lets(0, 0, 0) ? 1 : 0);
    }
}
