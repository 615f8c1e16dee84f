/** Promises 1 to 7 and 35: the tape, laws and their faults, what they say, where two part. */
public final class LawsTest {
    private static final int NONE = KeepingHands.NONE;

    public static void main(String[] args) {
        newObject();
        feed();
        law();
        misplaced();
        noSuchNumbers();
        tooMany();
        leastFault();
        fault();
        cutShort();
        fullTape();
        fullLaw();
        afterFaults();
        force();
        answers();
        conditions();
        order();
        owed();
        wrongWords();
        lets();
        parting();
        Check.end();
    }

    private static KeepingHands with(String... laws) {
        KeepingHands x = new KeepingHands();
        for (int i = 0; i < laws.length; i++) {
            int number = i;
            Check.due("law " + laws[i], number, () -> Check.law(x, laws[number]));
        }
        return x;
    }

    private static int of(int keeping, int harm, int bits) {
        return 32 * (6 * keeping + harm) + bits;
    }

    // Promise 1: "No LAWS, a CHAIN of HAND 0 alone."
    private static void newObject() {
        KeepingHands x = new KeepingHands();
        int[] due = {0, 1, 0, 0, 0, 0, 0, 100, -1, -1};
        for (int what = 0; what < due.length; what++) {
            int asked = what;
            Check.due("new: count " + what, due[what], () -> x.count(asked));
        }
        Check.due("new: fault", NONE, x::fault);
        Check.due("new: holder", NONE, x::holder);
        Check.due("new: title", 0, x::title);
        Check.due("new: wrong", NONE, x::wrong);
        Check.due("new: least", 0, x::least);
        Check.due("new: hand 1", Check.NO_SUCH, () -> x.hand(1, 0));
        Check.due("new: harm", NONE, () -> x.harm(NONE, 0));
        Check.due("new: force", NONE, () -> x.force(NONE));
        Check.due("new: restore", -1, x::restore);
    }

    // Promise 2: "Twenty bytes come on the TAPE, of each number the highest first: how many there are; NONE .."
    private static void feed() {
        KeepingHands x = new KeepingHands();
        for (int i = 1; i <= 25; i++) {
            int due = 20 * i;
            Check.due("feed " + i, due, () -> x.feed(538976288, 538976288, 538976288, 538976288, 538976288));
        }
        Check.due("26th feed", NONE, () -> x.feed(0, 0, 0, 0, 0));
        Check.due("bytes after 26 feeds", 500, () -> x.count(6));
        Check.due("the 26th did nothing: 500 blanks are a law", 0, () -> x.law(500));
        Check.due("bytes after law", 0, () -> x.count(6));
        // "free" "s wo" are in the wrong order if the lowest byte came first.
        Check.due("feed of paid twice;", 20, () -> x.feed(0x70616964, 0x20747769, 0x63653b00, 0x80ff0000, 0));
        Check.due("highest byte first", 1, () -> x.law(11));
        x.feed(0x3bffffff, -1, -1, -1, -1);
        Check.due("a negative number is four bytes too", -9, () -> x.law(1));
    }

    // Promise 3: "The first n bytes of the TAPE (empty then) are a LAW: its number; or its FAULT less 10; -1: there are 4"
    private static void law() {
        KeepingHands x = new KeepingHands();
        Check.due("law of nothing", 0, () -> x.law(0));
        Check.due("law of more than stands on the tape", Check.WRONG_ARGUMENT, () -> x.law(1));
        Check.due("law of -1", Check.WRONG_ARGUMENT, () -> x.law(-1));
        Check.feed(x, "paid twice; paid owes #");
        Check.due("law of 41 of 40", Check.WRONG_ARGUMENT, () -> x.law(41));
        Check.due("the tape stays", 40, () -> x.count(6));
        Check.due("law of the first 11", 1, () -> x.law(11));
        Check.due("the tape is empty", 0, () -> x.count(6));
        Check.due("a text with a fault", -9, () -> Check.law(x, "paid twice"));
        Check.due("the tape is empty then, too", 0, () -> x.count(6));
        Check.due("no law was made of it", 2, () -> x.count(0));
        Check.due("third", 2, () -> Check.law(x, "free twice;"));
        Check.due("fourth", 3, () -> Check.law(x, " "));
        Check.due("fifth", -1, () -> Check.law(x, "#"));
        Check.due("no fault of the fifth", NONE, x::fault);
        Check.due("the tape is empty after the fifth", 0, () -> x.count(6));
        Check.due("an exception goes ahead of -1", Check.WRONG_ARGUMENT, () -> x.law(1));
        Check.due("four laws", 4, () -> x.count(0));
        for (String right : new String[] {"", "   ", "free answers all;", "any swears worn,hurt , died,lost,stolen,forced;",
            "  work  owes  1  ;  ", "pledge lets 1,2,3;", "pledge lets 3 , 003;", "hired twice;mixed parts;mixed last;",
            "lent answers all if[1=1];", "lent answers all if not[1=1];",
            "any owes0;any owes 9999;any owes 000000000000000000009999;", "any owes(1)*(2);", "any owes least(1,most(2,3));",
            "any owes fault+there-use*late/passed+term+value+days;", "any answers all if 1<2 and 3>2 or not[1=2];",
            "any answers all if((1))=1;"}) {
            Check.dueRight(right);
        }
    }

    // Section 1, FAULTS: "1 what can't stand there (at the length, if the text ends too early)"
    private static void misplaced() {
        Check.dueFault(";", 1, 0);
        Check.dueFault("  lend twice;", 1, 2);
        Check.dueFault("Lent twice;", 1, 0);
        Check.dueFault("lenttwice;", 1, 0);
        Check.dueFault("lent\ttwice;", 1, 4);
        Check.dueFault("7 twice;", 1, 0);
        Check.dueFault("all twice;", 1, 0);
        Check.dueFault("answers all;", 1, 0);
        Check.dueFault("lent twic;", 1, 5);
        Check.dueFault("lent mixed;", 1, 5);
        Check.dueFault("lent twicea;", 1, 5);
        Check.dueFault("lent twicez;", 1, 5);
        Check.dueFault("lent twice lent", 1, 11);
        Check.dueFault("lent twice", 1, 10);
        Check.dueFault("lent twice  ", 1, 12);
        Check.dueFault("lent", 1, 4);
        Check.dueFault("lent ", 1, 5);
        Check.dueFault("lent twice;;", 1, 11);
        Check.dueFault("lent answers any;", 1, 13);
        Check.dueFault("lent answers worn hurt;", 1, 18);
        Check.dueFault("lent answers worn,;", 1, 18);
        Check.dueFault("lent answers,worn;", 1, 12);
        Check.dueFault("lent answers worn if;", 1, 20);
        Check.dueFault("lent answers worn iff 1=1;", 1, 18);
        Check.dueFault("lent owes 1 if 1=1;", 1, 12);
        Check.dueFault("lent twice if 1=1;", 1, 11);
        Check.dueFault("lent lets 1 if 1=1;", 1, 12);
        Check.dueFault("lent lets;", 1, 9);
        Check.dueFault("lent lets term;", 1, 10);
        Check.dueFault("lent lets 1,;", 1, 12);
        Check.dueFault("mixed;", 1, 5);
        Check.dueFault("mixed least;", 1, 6);
        Check.dueFault("mixed parts last;", 1, 12);
        Check.dueFault("lent owes;", 1, 9);
        Check.dueFault("lent owes -1;", 1, 10);
        Check.dueFault("lent owes 1+;", 1, 12);
        Check.dueFault("lent owes 1 2;", 1, 12);
        Check.dueFault("lent owes 1+*2;", 1, 12);
        Check.dueFault("lent owes (1;", 1, 12);
        Check.dueFault("lent owes 1);", 1, 11);
        Check.dueFault("lent owes [1];", 1, 10);
        Check.dueFault("lent owes 1=1;", 1, 11);
        Check.dueFault("lent owes least 1,2;", 1, 16);
        Check.dueFault("lent owes least(1);", 1, 17);
        Check.dueFault("lent owes least(1,2,3);", 1, 19);
        Check.dueFault("lent owes most(,2);", 1, 15);
        Check.dueFault("lent owes lent;", 1, 10);
        Check.dueFault("lent owes not 1;", 1, 10);
        Check.dueFault("lent answers all if 1;", 1, 21);
        Check.dueFault("lent answers all if 1=1=1;", 1, 23);
        Check.dueFault("lent answers all if (1=1);", 1, 22);
        Check.dueFault("lent answers all if [1=1;", 1, 24);
        Check.dueFault("lent answers all if [1=1);", 1, 24);
        Check.dueFault("lent answers all if [1];", 1, 22);
        Check.dueFault("lent answers all if 1=1];", 1, 23);
        Check.dueFault("lent answers all if [1=1]=1;", 1, 25);
        Check.dueFault("lent answers all if 1=1 and;", 1, 27);
        Check.dueFault("lent answers all if or 1=1;", 1, 20);
        Check.dueFault("lent answers all if 1=1 not 1=1;", 1, 24);
        Check.dueFault("lent answers all if 1!1;", 1, 21);
        Check.dueFault("lent twice\u00bb", 1, 10);
        Check.dueFault("lent twice\0", 1, 10);
        Check.dueFault("{ent twice;", 1, 0);
        Check.dueFault("`ent twice;", 1, 0);
        Check.dueFault("lent owes :;", 1, 10);
        Check.dueFault("lent owes /;", 1, 10);
    }

    // Section 1, FAULTS: "2 an N that is none such"
    private static void noSuchNumbers() {
        Check.dueFault("lent owes 10000;", 2, 10);
        Check.dueFault("lent owes 1+  99999;", 2, 14);
        Check.dueFault("lent owes 4294967297;", 2, 10);
        Check.dueFault("lent owes 18446744073709551617;", 2, 10);
        Check.dueFault("lent owes 00010000;", 2, 10);
        Check.dueFault("lent owes least(1,10000);", 2, 18);
        Check.dueFault("lent answers all if 1=10000;", 2, 22);
        Check.dueFault("lent lets 0;", 2, 10);
        Check.dueFault("lent lets 4;", 2, 10);
        Check.dueFault("lent lets 1,4;", 2, 12);
        Check.dueFault("lent lets 1,0;", 2, 12);
        Check.dueFault("lent lets 4294967297;", 2, 10);
        Check.dueFault("lent owes 10000", 2, 10);
    }

    // Section 1, FAULTS: "3 a 25th CLAUSE, or a 7th of ( [ and not that is open at one time (a not till its B ends)"
    private static void tooMany() {
        String full = "any twice;".repeat(24);
        Check.dueRight(full);
        Check.dueRight(full + "    ");
        Check.dueFault(full + "any twice;", 3, 240);
        Check.dueFault(full + "  mixed parts;", 3, 242);
        Check.dueFault(full + "work", 3, 240);
        Check.dueFault(full + "work work", 3, 240);
        Check.dueFault("mixed last;".repeat(25), 3, 264);

        Check.dueRight("any owes ((((((1))))));");
        Check.dueFault("any owes (((((((1)))))));", 3, 15);
        Check.dueRight("any owes ((((((1))))))+((((((1))))));");
        Check.dueFault("any owes (((((least(most(1,2),3))))));", 3, 24);
        Check.dueRight("any owes ((((least(most(1,2),3)))));");
        Check.dueFault("any owes ((((((least (1,2)))))));", 3, 21);
        Check.dueRight("any answers all if [[[[[[1=1]]]]]];");
        Check.dueFault("any answers all if [[[[[[ [1=1]]]]]]];", 3, 26);
        Check.dueRight("any answers all if not not not not not not 1=1;");
        Check.dueFault("any answers all if not not not not not not not 1=1;", 3, 43);
        Check.dueRight("any answers all if not [not [not [1=1]]];");
        Check.dueFault("any answers all if not [not [not [(1)=1]]];", 3, 34);
        Check.dueFault("any answers all if not not not not not not (1)=1;", 3, 43);
        Check.dueRight("any answers all if not not not not not not 1=1 and not 1=1 or not not 1=1;");
        Check.dueRight("any answers all if not 1=1 and not 1=1 and not 1=1 and not 1=1 and not 1=1 and not 1=1 and not 1=1"
            + " and not (((((1)))))=1;");
        Check.dueFault("any answers all if not 1=1 and not ((((((1))))))=1;", 3, 40);
        Check.dueRight("any answers all if [[[[[[1=1]]]]]] and [[[[[[1=1]]]]]];");
        Check.dueRight("any answers all if ((((((1))))))=((((((1))))));");
        Check.dueRight("any owes least((((((1))))),2);");
        Check.dueFault("any owes least(((((((1)))))),2);", 3, 20);
    }

    // Section 1, FAULTS: "the first from the left, at its first byte"; "of one the least."
    private static void leastFault() {
        String full = "any twice;".repeat(24);
        Check.dueFault(full + "anu twice;", 1, 240);
        Check.dueFault(full + ";", 1, 240);
        Check.dueFault(full + "12345", 1, 240);
        Check.dueFault("any 12345;", 1, 4);
        Check.dueFault("any owes 1 12345;", 1, 11);
        Check.dueFault("any owes ((((((1(", 1, 16);
        Check.dueFault("any owes ((((((not", 1, 15);
        Check.dueFault("any answers all if not not not not not not ,", 1, 43);
        Check.dueFault("any owes 10000 #", 2, 9);
        Check.dueFault("any owes # 10000", 1, 9);
    }

    // Promise 4: "The place of the FAULT of the latest law() that threw nothing; NONE without."
    private static void fault() {
        KeepingHands x = new KeepingHands();
        Check.law(x, "any twice;#");
        Check.due("fault", 10, x::fault);
        Check.due("fault again", 10, x::fault);
        Check.due("law that throws", Check.WRONG_ARGUMENT, () -> x.law(9));
        Check.due("fault stays then", 10, x::fault);
        x.feed(0, 0, 0, 0, 0);
        Check.due("fault stays till law", 10, x::fault);
        Check.due("law of nothing", 0, () -> x.law(0));
        Check.due("no fault", NONE, x::fault);
        Check.law(x, "any twice,");
        x.image();
        x.law(0);
        x.restore();
        Check.due("an image holds no fault", NONE, x::fault);
        x.law(0);
        x.law(0);
        Check.law(x, "#");
        Check.due("not read: no fault", NONE, x::fault);
    }

    // Promise 3: "The first n bytes of the TAPE .. are a LAW": behind them nothing is read, though it would go on.
    private static void cutShort() {
        KeepingHands x = new KeepingHands();
        Check.feed(x, "any twices;");
        Check.due("cut in a word", -9, () -> x.law(9));
        Check.due("at the length", 9, x::fault);
        Check.feed(x, "any owes 1234;");
        Check.due("cut in a number", -9, () -> x.law(12));
        Check.due("at its length", 12, x::fault);
        Check.feed(x, "any owes 12    ;");
        Check.due("cut in blanks", -9, () -> x.law(14));
        Check.due("at the length of these", 14, x::fault);
    }

    // Section 1: "texts of up to 500 bytes"; promise 2: "NONE, doing nothing, if there would be more than 500."
    private static void fullTape() {
        Check.dueFault("any owes 1 ".concat(" ".repeat(489)), 1, 500);
        Check.dueFault(" ".repeat(495) + "twice", 1, 495);
        Check.dueFault(" ".repeat(497) + "any", 1, 500);
        Check.dueFault("any owes" + " ".repeat(488) + "1234", 1, 500);
        String sum = "any owes 1".concat("+1".repeat(244)) + ";";
        KeepingHands x = with(sum, "any answers all if " + "1=2 or ".repeat(68) + "1=1;");
        Check.due(sum, 245, () -> x.words(0, 0, 0, 0, 0, 2));
        Check.due("or and or", 1, () -> x.words(1, 0, 0, 0, 0, 0));
        KeepingHands y = with("any owes 9" + "*9/9".repeat(122) + ";",
            "any answers all if " + "1=1 and ".repeat(59) + "1=2;", "any answers all" + ",all".repeat(121) + ";",
            "any lets 1" + ",2".repeat(244) + ";");
        Check.due("times and over", 9, () -> y.words(0, 0, 0, 0, 0, 2));
        Check.due("and and and", 0, () -> y.words(1, 0, 0, 0, 0, 0));
        Check.due("all and all", 1, () -> y.words(2, 0, 0, 0, 0, 0));
        Check.dueIf("2 and 2", true, () -> y.lets(3, 0, 2));
        Check.dueIf("not 3", false, () -> y.lets(3, 0, 3));
    }

    // Section 1: "At most 24 CLAUSES"
    private static void fullLaw() {
        KeepingHands x = with("mixed parts;".repeat(24), "free twice;".repeat(23) + "lent owes 3;",
            "lent owes 3;" + "free lets 1;".repeat(23), "lent answers lost;".repeat(24));
        for (int law = 0; law < 4; law++) {
            int asked = law;
            Check.due("no answers", 0, () -> x.words(asked, 0, 0, 7, 0, 0));
            Check.due("no swears", 0, () -> x.words(asked, 0, 0, 7, 0, 1));
            Check.due("owed", law == 1 || law == 2 ? 3 : 7, () -> x.words(asked, 384, 0, 7, 0, 2));
            Check.dueIf("lets", law == 2, () -> x.lets(asked, 0, 1));
            Check.dueIf("twice", law == 1, () -> x.lets(asked, 0, 0));
        }
        Check.due("parting", of(2, 3, 0), () -> x.parting(0, 3));
    }

    // Promise 3: "or its FAULT less 10": such a text leaves nothing to the law that is read next.
    private static void afterFaults() {
        KeepingHands x = new KeepingHands();
        Check.law(x, "any answers all;any owes 5;any lets 1;any twice;#");
        Check.due("empty", 0, () -> Check.law(x, ""));
        Check.due("nothing answers", 0, () -> x.words(0, 0, 0, 9, 0, 0));
        Check.due("nothing is owed", 9, () -> x.words(0, 0, 0, 9, 0, 2));
        Check.dueIf("nothing is let", false, () -> x.lets(0, 0, 1));
        Check.dueIf("nothing is twice", false, () -> x.lets(0, 0, 0));
        Check.law(x, "any answers all;any lets 1,2,3;#");
        Check.due("small", 1, () -> Check.law(x, "free answers worn;free lets 2;"));
        Check.due("no other harm", 0, () -> x.words(1, of(0, 1, 0), 0, 9, 0, 0));
        Check.dueIf("no other term", false, () -> x.lets(1, 0, 1));
        Check.due("a text that opens", -9, () -> Check.law(x, "any owes (((((("));
        Check.due("six are open again", 2, () -> Check.law(x, "any owes ((((((1))))));"));
        for (int i = 0; i < 9; i++) {
            Check.due("long", -9, () -> Check.law(x, "any owes 1".concat("+1".repeat(240)) + "#"));
        }
        Check.due("after long ones", 3, () -> Check.law(x, "any owes 1".concat("+1".repeat(240)) + ";"));
        Check.due("its sum", 241, () -> x.words(3, 0, 0, 0, 0, 2));
    }

    // Promise 5: "A LAW (NONE: none) is in force: the one that was. IllegalArgumentException: no such LAW"
    private static void force() {
        KeepingHands x = with("any answers all;", "any owes 7;");
        Check.due("force 1", NONE, () -> x.force(1));
        Check.due("force 0", 1, () -> x.force(0));
        Check.due("force 2", Check.WRONG_ARGUMENT, () -> x.force(2));
        Check.due("force -2", Check.WRONG_ARGUMENT, () -> x.force(-2));
        x.pass(0, 0, 0, 0, true);
        x.harm(0, 0);
        Check.due("claim by 0", 100, () -> x.claim(1));
        Check.due("force none", 0, () -> x.force(NONE));
        Check.due("no claim by none", 0, () -> x.claim(1));
        Check.due("force 1 again", NONE, () -> x.force(1));
        Check.due("no claim by 1", 0, () -> x.claim(1));
    }

    private static void says(String law, int of, int days, int answers, int swears) {
        KeepingHands x = with(law);
        Check.due("answers by " + law, answers, () -> x.words(0, of, 2, 50, days, 0));
        Check.due("swears by " + law, swears, () -> x.words(0, of, 2, 50, days, 1));
    }

    // Section 1: "a LAW has ANSWERS, if some answers CLAUSE for that KEEPING (or any) and that HARM (or all) .."
    private static void answers() {
        String[] keepings = {"free", "paid", "lent", "hired", "pledge", "work", "any"};
        String[] harms = {"worn", "hurt", "died", "lost", "stolen", "forced", "all"};
        for (int k = 0; k < 7; k++) {
            for (int h = 0; h < 7; h++) {
                KeepingHands x = with(keepings[k] + " answers " + harms[h] + ";", keepings[k] + " swears " + harms[h] + ";");
                for (int of = 0; of < 1152; of += 31) {
                    int asked = of;
                    boolean is = (k == 6 || of / 192 == k) && (h == 6 || of / 32 % 6 == h);
                    String what = keepings[k] + " " + harms[h] + " in " + of;
                    Check.due("answers " + what, is ? 1 : 0, () -> x.words(0, asked, 0, 0, 0, 0));
                    Check.due("swears beside answers " + what, 0, () -> x.words(0, asked, 0, 0, 0, 1));
                    Check.due("swears " + what, is ? 1 : 0, () -> x.words(1, asked, 0, 0, 0, 1));
                    Check.due("answers beside swears " + what, 0, () -> x.words(1, asked, 0, 0, 0, 0));
                }
            }
        }
        says("free answers died,lost;free swears lost,worn;", of(0, 3, 0), 0, 1, 1);
        says("free answers died,lost;free swears lost,worn;", of(0, 2, 0), 0, 1, 0);
        says("free answers died,lost;free swears lost,worn;", of(0, 0, 0), 0, 0, 1);
        says("free answers all if 0=1;free answers all if 1=1;", 0, 0, 1, 0);
        says("free answers all if 1=1;free answers all if 0=1;", 0, 0, 1, 0);
        says("free answers all if 0=1;free swears worn;", 0, 0, 0, 1);
    }

    private static void holds(String condition, int bits, boolean due) {
        says("any answers all if " + condition + ";", of(3, 4, bits), 9, due ? 1 : 0, 0);
    }

    // Section 1: "C: A { "or" A }. A: B { "and" B }. B: "not" B, "[" C "]", or E R E; R: <, > or =."
    private static void conditions() {
        String[] names = {"fault", "there", "use", "late", "passed"};
        for (int i = 0; i < 5; i++) {
            holds(names[i] + "=1", 1 << i, true);
            holds(names[i] + "=0", 1 << i, false);
            holds(names[i] + "=0", 31 - (1 << i), true);
        }
        holds("term=2", 0, true);
        holds("value=50", 0, true);
        holds("days=9", 0, true);
        holds("1<2", 0, true);
        holds("2<2", 0, false);
        holds("2>1", 0, true);
        holds("2>2", 0, false);
        holds("0-1<0", 0, true);
        holds("1=1 or 1=1 and 1=2", 0, true);
        holds("[1=1 or 1=1] and 1=2", 0, false);
        holds("not 1=2 and 1=2", 0, false);
        holds("not [1=2 and 1=2]", 0, true);
        holds("not 1=1 or 1=1", 0, true);
        holds("not not 1=1", 0, true);
        holds("not not 1=2", 0, false);
        holds("not not not 1=1", 0, false);
        for (String so : new String[] {"1=1", "1<2", "2>1", "not 1=2"}) {
            holds("not " + so, 0, false);
            for (String also : new String[] {"1=1", "1<2", "2>1", "not 1=2"}) {
                holds(so + " and " + also, 0, true);
                holds("not [" + so + " or " + also + "]", 0, false);
                holds(so + " and not " + also, 0, false);
            }
        }
        holds("1=2 or 1=3 or 1=1", 0, true);
        holds("1=1 and 2=2 and 3=4", 0, false);
        holds("[1=2]", 0, false);
    }

    private static void works(String sum, int due) {
        KeepingHands x = with("any owes " + sum + ";");
        Check.due(sum, due, () -> x.words(0, 31, 3, 40, 6, 2));
    }

    // Section 1: "E: T { + or - T }. T: U { * or / U }."; "whole numbers of 32 bits that wrap; / cuts, by 0 it is 0"
    private static void order() {
        works("2+3*4", 14);
        works("(2+3)*4", 20);
        works("20-3-4", 13);
        works("20-(3-4)", 21);
        works("100/7/2", 7);
        works("100/(7/2)", 33);
        works("2*7/4", 3);
        works("7/4*2", 2);
        works("least(3,5)+most(3,5)*10", 53);
        works("least(5,3)+most(5,3)*10", 53);
        works("fault+there+use+late+passed+10*term+100*days+value", 675);
        // - 7 / 2 cuts to - 3, not down to - 4.
        works("100+(0-7)/2", 97);
        works("100+7/(0-2)", 97);
        works("5/0+8", 8);
        works("(0-5)/(3-3)+8", 8);
        // 9999 * 9999 * 100 wraps to 1408065508; what is left of it over 1408065000 is 508.
        works("9999*9999*100-1408*1000*1000-65*1000", 508);
        // 2147483647 and 1 more are the least number; that less 1 is the most again.
        works("(2147*1000*1000+483*1000+647+1)/1000/1000+3000", 853);
        works("(0-2147*1000*1000-483*1000-648)/(0-1)/1000/1000+3000", 853);
        works("(0-2147*1000*1000-483*1000-648-1)/1000/1000", 2147);
        works("1+2*(3+4*(5+6*(7+8*(9+10*(11+12)))))", 9999);
        works("1+1*(1+1*(1+1*(1+1*(1+1*(1+1*2)))))", 8);
        works("1+1*least(1+1*least(1+1*least(1+1*least(1+1*least(1+1*least(9,2),9),9),9),9),9)", 8);
        works("1+1*most(1,1+1*most(1,1+1*most(1,1+1*most(1,1+1*most(1,1+1*most(1,2))))))", 8);
        holds("1=2 or 1=1 and [1=2 or 1=1 and [1=2 or 1=1 and [1=2 or 1=1 and [1=2 or 1=1 and [1=2 or 1=1 and 1=1+0*1]]]]]",
            0, true);
    }

    // Section 1: "OWED: the VALUE of the last owes CLAUSE .., 0 at least, 9,999 at most; without one: value."
    private static void owed() {
        works("9998+1", 9999);
        works("9999+1", 9999);
        works("0-1", 0);
        works("0", 0);
        KeepingHands x = with("any owes 5;lent owes 7;free owes value+1;any twice;", "lent owes 1;any owes 2;", "");
        Check.due("the last counts: lent", 7, () -> x.words(0, of(2, 0, 0), 0, 30, 0, 2));
        Check.due("the last counts: free", 31, () -> x.words(0, of(0, 0, 0), 0, 30, 0, 2));
        Check.due("any for the others", 5, () -> x.words(0, of(5, 0, 0), 0, 30, 0, 2));
        Check.due("any behind lent", 2, () -> x.words(1, of(2, 0, 0), 0, 30, 0, 2));
        Check.due("value without one", 30, () -> x.words(2, of(2, 0, 0), 0, 30, 0, 2));
        Check.due("value at most", 9999, () -> x.words(2, of(2, 0, 0), 3, 9999, 9999, 2));
        Check.due("owed though nothing is answered", 9999, () -> x.words(0, of(0, 0, 0), 0, 9999, 0, 2));
    }

    // Promise 6: "also the CASE (0 to 1,151), term (0 to 3), value, days (0 to 9,999), or what."
    private static void wrongWords() {
        KeepingHands x = with("any answers all;");
        Check.due("all at the top", 1, () -> x.words(0, 1151, 3, 9999, 9999, 0));
        int[][] wrong = {{-1, 0, 0, 0, 0, 0}, {1, 0, 0, 0, 0, 0}, {0, -1, 0, 0, 0, 0}, {0, 1152, 0, 0, 0, 0},
            {0, 0, -1, 0, 0, 0}, {0, 0, 4, 0, 0, 0}, {0, 0, 0, -1, 0, 0}, {0, 0, 0, 10000, 0, 0}, {0, 0, 0, 0, -1, 0},
            {0, 0, 0, 0, 10000, 0}, {0, 0, 0, 0, 0, -1}, {0, 0, 0, 0, 0, 3}};
        for (int[] w : wrong) {
            Check.due("words" + java.util.Arrays.toString(w), Check.WRONG_ARGUMENT,
                () -> x.words(w[0], w[1], w[2], w[3], w[4], w[5]));
        }
    }

    // Promise 7: "Whether a LAW LETS a TERM (1 to 3) for a KEEPING; or, with 0, has TWICE for it."
    private static void lets() {
        KeepingHands x = with("lent lets 1,3;any lets 2;work twice;", "any twice;", "lent lets 1;lent lets 2;");
        boolean[] lent = {false, true, true, true};
        boolean[] work = {true, false, true, false};
        for (int t = 0; t < 4; t++) {
            int term = t;
            Check.dueIf("lent lets " + t, lent[t], () -> x.lets(0, 2, term));
            Check.dueIf("work lets " + t, work[t], () -> x.lets(0, 5, term));
            Check.dueIf("any twice alone: " + t, t == 0, () -> x.lets(1, 0, term));
            Check.dueIf("two lets clauses: " + t, t == 1 || t == 2, () -> x.lets(2, 2, term));
        }
        int[][] wrong = {{-1, 0, 0}, {3, 0, 0}, {0, -1, 0}, {0, 6, 0}, {0, 0, -1}, {0, 0, 4}};
        for (int[] w : wrong) {
            Check.due("lets" + java.util.Arrays.toString(w), Check.WRONG_ARGUMENT,
                () -> x.lets(w[0], w[1], w[2]) ? 1 : 0);
        }
    }

    private static void parts(String law, String other, int due) {
        KeepingHands x = with(law, other);
        Check.due("parting of " + law + " and " + other, due, () -> x.parting(0, 1));
        Check.due("parting of " + other + " and " + law, due, () -> x.parting(1, 0));
        Check.due("parting of " + law + " and itself", NONE, () -> x.parting(0, 0));
    }

    // Promise 35: "PARTING; NONE: they are alike in all."
    private static void parting() {
        parts("", "", NONE);
        parts("any answers all;", "", 0);
        parts("any answers all;", "any swears all;", NONE);
        parts("lent answers hurt;", "", of(2, 1, 0));
        parts("work answers forced if passed=1 and late=1;", "", of(5, 5, 24));
        parts("work answers forced if passed=1 and late=1 and use=1 and there=1 and fault=1;", "", 1151);
        parts("free answers forced;", "paid answers worn;", of(0, 5, 0));
        parts("any owes 7;", "any owes 8;", NONE);
        parts("any answers all;any owes 100;", "any answers all;", NONE);
        parts("any answers all;any owes value-99;", "any answers all;any owes 1;", NONE);
        parts("any answers all;any owes days;", "any answers all;any owes 10;", NONE);
        parts("any answers all;any owes term;", "any answers all;any owes 0;", NONE);
        parts("any lets 1;any answers all;any owes term;", "any answers all;any owes 0;", NONE);
        parts("hired answers died if use=1;any owes 0;", "", NONE);
        parts("hired answers died if use=1;any owes fault;", "", of(3, 2, 5));
        KeepingHands x = with("");
        Check.due("parting of no law", Check.WRONG_ARGUMENT, () -> x.parting(1, 0));
        Check.due("parting from no law", Check.WRONG_ARGUMENT, () -> x.parting(0, 1));
        Check.due("parting of none", Check.WRONG_ARGUMENT, () -> x.parting(NONE, 0));
        Check.due("parting from none", Check.WRONG_ARGUMENT, () -> x.parting(0, NONE));
    }
}
