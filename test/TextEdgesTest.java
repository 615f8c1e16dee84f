/** Section 1: what a LAW's text may be, its FAULTS, and what it says at its edges; a sentence above each test. */
public final class TextEdgesTest {
    private static final int NONE = KeepingHands.NONE;
    private static final String MOST = "(2147*1000*1000+483*1000+647)";
    private static final String LEAST = "(0-2147*1000*1000-483*1000-648)";

    public static void main(String[] args) {
        upTo500Bytes();
        noClauses();
        eachClauseEnds();
        eachKeeping();
        eachHarm();
        termsOneToThree();
        numbersTo9999();
        numbersThatWouldWrap();
        digitsAsManyAsStandThere();
        wordsAsManyAsStandThere();
        smallLettersAlone();
        blanksAheadOfAll();
        blanksAreNot31Or33();
        clauses24();
        clauses25();
        lastMixed();
        firstFromTheLeft();
        atItsFirstByte();
        endsTooEarly();
        sixOpen();
        sevenOpen();
        sevenOfThreeSorts();
        closedAgain();
        notTillItsBEnds();
        leastOfOneByte();
        sumsWrap();
        differencesWrap();
        productsWrap();
        quotientWraps();
        divisionCuts();
        divisionByZero();
        bothSidesAreWorked();
        comparedAtTheEnds();
        leastAndMost();
        notTurns();
        allThatWaitsForSixOpen();
        answersWithoutClauses();
        owedAtLeastAndMost();
        owedByTheLast();
        owedWithout();
        letsAndTwiceWithout();
        claimElseNothing();
        noneInForce();
        Check.end();
    }

    private static KeepingHands with(String... laws) {
        KeepingHands x = new KeepingHands();
        for (int i = 0; i < laws.length; i++) {
            int number = i;
            Check.due("law " + laws[i], number, () -> Check.law(x, laws[number]));
        }
        return x;
    }

    private static void holds(String condition, boolean due) {
        KeepingHands x = with("any answers all if " + condition + ";");
        Check.due(condition, due ? 1 : 0, () -> x.words(0, 0, 0, 0, 0, 0));
    }

    /** Of two sums that are alike neither is less, and with one more they are not alike. */
    private static void alike(String sum, String other) {
        holds(sum + "=" + other, true);
        holds(sum + "=" + other + "+1", false);
    }

    // Section 1: "texts of up to 500 bytes"
    private static void upTo500Bytes() {
        KeepingHands x = with(" ".repeat(490) + "any twice;", "any twice;" + " ".repeat(490), " ".repeat(500));
        Check.dueIf("its last ten bytes", true, () -> x.lets(0, 0, 0));
        Check.dueIf("its first ten bytes", true, () -> x.lets(1, 0, 0));
        Check.dueIf("blanks alone", false, () -> x.lets(2, 0, 0));
        KeepingHands y = with("any owes 1" + "+1".repeat(244) + ";", "any owes " + "0".repeat(489) + "7;",
            "any answers all" + ",all".repeat(121) + ";");
        Check.due("a sum of 499 bytes", 245, () -> y.words(0, 0, 0, 0, 0, 2));
        Check.due("a number of 490 digits", 7, () -> y.words(1, 0, 0, 0, 0, 2));
        Check.due("harms", 1, () -> y.words(2, 0, 0, 0, 0, 0));
        Check.dueFault(" ".repeat(499) + "#", 1, 499);
        Check.dueFault("any owes " + "9".repeat(490) + ";", 2, 9);
        Check.dueFault("z".repeat(500), 1, 0);
    }

    // Section 1: "{ CLAUSE ";" }": there may be none.
    private static void noClauses() {
        Check.dueRight("");
        Check.dueRight(" ");
        Check.dueRight("                    ");
        Check.dueFault(";", 1, 0);
        Check.dueFault(" ; ", 1, 1);
    }

    // Section 1: "{ CLAUSE ";" }": one each, behind the last CLAUSE too.
    private static void eachClauseEnds() {
        Check.dueFault("any twice", 1, 9);
        Check.dueFault("any twice any twice;", 1, 10);
        Check.dueFault("any twice;;", 1, 10);
        Check.dueFault("any twice;any twice", 1, 19);
        Check.dueFault("any answers all", 1, 15);
        Check.dueFault("any owes 1", 1, 10);
        Check.dueFault("any lets 1", 1, 10);
        Check.dueFault("mixed last", 1, 10);
        Check.dueFault("any twice,", 1, 9);
    }

    // Section 1: "K (KEEPINGS 0 to 5)": the first, the last, "or "any" (each of them)".
    private static void eachKeeping() {
        String[] keepings = {"free", "paid", "lent", "hired", "pledge", "work", "any"};
        for (int own = 0; own < 7; own++) {
            KeepingHands x = with(keepings[own] + " answers all;" + keepings[own] + " owes 7;" + keepings[own] + " twice;");
            for (int asked = 0; asked < 6; asked++) {
                int k = asked;
                boolean is = own == 6 || own == asked;
                Check.due(keepings[own] + " answers by " + k, is ? 1 : 0, () -> x.words(0, 192 * k, 0, 9, 0, 0));
                Check.due(keepings[own] + " owes by " + k, is ? 7 : 9, () -> x.words(0, 192 * k, 0, 9, 0, 2));
                Check.dueIf(keepings[own] + " twice by " + k, is, () -> x.lets(0, k, 0));
            }
        }
    }

    // Section 1: "H (HARMS 0 to 5)": the first, the last, "or "all"".
    private static void eachHarm() {
        String[] harms = {"worn", "hurt", "died", "lost", "stolen", "forced", "all"};
        for (int own = 0; own < 7; own++) {
            KeepingHands x = with("any answers " + harms[own] + ";", "any swears " + harms[own] + ";");
            for (int asked = 0; asked < 6; asked++) {
                int h = asked;
                int due = own == 6 || own == asked ? 1 : 0;
                Check.due("answers " + harms[own] + " by " + h, due, () -> x.words(0, 32 * h, 0, 9, 0, 0));
                Check.due("swears " + harms[own] + " by " + h, due, () -> x.words(1, 32 * h, 0, 9, 0, 1));
            }
        }
    }

    // Section 1: "K "lets" N { "," N } (TERMS 1 to 3)"
    private static void termsOneToThree() {
        Check.dueRight("any lets 1;");
        Check.dueRight("any lets 3;");
        Check.dueRight("any lets 1,2,3,3,2,1;");
        Check.dueRight("any lets 0001;");
        Check.dueFault("any lets 0;", 2, 9);
        Check.dueFault("any lets 000;", 2, 9);
        Check.dueFault("any lets 4;", 2, 9);
        Check.dueFault("any lets 9999;", 2, 9);
        Check.dueFault("any lets 10000;", 2, 9);
        Check.dueFault("any lets 3,4;", 2, 11);
        Check.dueFault("any lets 1,0;", 2, 11);
        Check.dueFault("any lets 4294967297;", 2, 9);
        Check.dueFault("any lets 18446744073709551617;", 2, 9);
        Check.dueFault("any lets ;", 1, 9);
        Check.dueFault("any lets 1,;", 1, 11);
    }

    // Section 1: "N (0 to 9,999)"; of FAULTS: "2 an N that is none such"
    private static void numbersTo9999() {
        KeepingHands x = with("any owes 0;", "any owes 9999;", "any owes 0000000000000000000000009999;");
        Check.due("0", 0, () -> x.words(0, 0, 0, 5, 0, 2));
        Check.due("9999", 9999, () -> x.words(1, 0, 0, 5, 0, 2));
        Check.due("9999 behind zeros", 9999, () -> x.words(2, 0, 0, 5, 0, 2));
        Check.dueFault("any owes 10000;", 2, 9);
        Check.dueFault("any owes 00010000;", 2, 9);
        Check.dueFault("any owes 1+10000;", 2, 11);
        Check.dueFault("any owes 1*10000;", 2, 11);
        Check.dueFault("any owes (10000);", 2, 10);
        Check.dueFault("any owes most(1,10000);", 2, 16);
        Check.dueRight("any answers all if 0=9999;");
        Check.dueFault("any answers all if 10000=1;", 2, 19);
        Check.dueFault("any answers all if 1=10000;", 2, 21);
    }

    // Section 1: "N (0 to 9,999)": as it stands, not what is left of it in 16, 32 or 64 bits.
    private static void numbersThatWouldWrap() {
        for (String number : new String[] {"32768", "65535", "65536", "65537", "99999", "2147483647", "2147483648",
            "4294967295", "4294967296", "4294967297", "9223372036854775807", "9223372036854775808",
            "18446744073709551615", "18446744073709551616", "18446744073709551617", "18446744073709561615",
            "340282366920938463463374607431768211457"}) {
            Check.dueFault("any owes " + number + ";", 2, 9);
            Check.dueFault("any answers all if 1=" + number + ";", 2, 21);
            Check.dueFault("any lets " + number + ";", 2, 9);
        }
        for (int digits = 5; digits < 100; digits++) {
            Check.dueFault("any owes 1" + "0".repeat(digits - 1) + ";", 2, 9);
            Check.dueFault("any owes " + "9".repeat(digits) + ";", 2, 9);
        }
    }

    // Section 1: "N: digits, as many as stand there"
    private static void digitsAsManyAsStandThere() {
        Check.dueFault("any owes 1 0;", 1, 11);
        Check.dueFault("any owes 9999 9;", 1, 14);
        Check.dueFault("any owes 99999;", 2, 9);
        Check.dueFault("any owes 1a;", 1, 10);
        Check.dueRight("any owes1;");
        Check.dueRight("any answers all if 1=1and 2=2or 3=3;");
        KeepingHands x = with("any owes1234;");
        Check.due("all four", 1234, () -> x.words(0, 0, 0, 5, 0, 2));
        // '/' (47) and ':' (58) stand next to the digits.
        Check.dueFault("any owes 1:;", 1, 10);
        Check.dueFault("any owes 1/;", 1, 11);
    }

    // Section 1: "WORDS: small letters, as many as stand there"
    private static void wordsAsManyAsStandThere() {
        Check.dueFault("anytwice;", 1, 0);
        Check.dueFault("an twice;", 1, 0);
        Check.dueFault("anyy twice;", 1, 0);
        Check.dueFault("a ny twice;", 1, 0);
        Check.dueFault("any twices;", 1, 4);
        Check.dueFault("any twic;", 1, 4);
        Check.dueFault("any answersall;", 1, 4);
        Check.dueFault("any answers alls;", 1, 12);
        Check.dueFault("any answers allif 1=1;", 1, 12);
        Check.dueFault("any answers all iffault=1;", 1, 16);
        Check.dueFault("any answers all if notfault=1;", 1, 19);
        Check.dueFault("any answers all if fault=1 orfault=1;", 1, 27);
        Check.dueFault("any owes leastmost(1,2);", 1, 9);
        Check.dueFault("any owes day;", 1, 9);
        Check.dueFault("any owes dayss;", 1, 9);
        Check.dueFault("mixedparts;", 1, 0);
        Check.dueFault("mixed part;", 1, 6);
        Check.dueFault("any " + "answers".repeat(60) + " all;", 1, 4);
    }

    // Section 1: "small letters": a and z are, what stands next to them ('`', '{') and great letters are not.
    private static void smallLettersAlone() {
        Check.dueFault("Any twice;", 1, 0);
        Check.dueFault("anY twice;", 1, 0);
        Check.dueFault("any Twice;", 1, 4);
        Check.dueFault("any`twice;", 1, 3);
        Check.dueFault("any{twice;", 1, 3);
        Check.dueFault("any twice`;", 1, 9);
        Check.dueFault("any twice{;", 1, 9);
        Check.dueFault("any twice@;", 1, 9);
        Check.dueFault("any twicea;", 1, 4);
        Check.dueFault("any twicez;", 1, 4);
        Check.dueFault("a", 1, 0);
        Check.dueFault("z", 1, 0);
    }

    private static final String[] TOKENS = {"lent", "answers", "worn", ",", "all", "if", "not", "[", "fault", "=", "1",
        "or", "(", "days", "+", "2", ")", "*", "3", ">", "least", "(", "term", ",", "4", "-", "use", ")", "/", "7", "and",
        "0", "<", "most", "(", "1", ",", "2", ")", "]", ";", "any", "lets", "1", ",", "3", ";", "work", "owes", "value",
        "-", "5", ";", "mixed", "parts", ";", "free", "twice", ";", "paid", "swears", "lost", ";"};

    // Section 1: "blanks (32) may stand ahead of all these, and at the end."
    private static void blanksAheadOfAll() {
        Check.dueRight(String.join(" ", TOKENS));
        Check.dueRight("  " + String.join("  ", TOKENS) + "  ");
        Check.dueRight(String.join("    ", TOKENS) + "    ");
        Check.dueRight("   " + String.join(" ", TOKENS));
        Check.dueRight("any twice;   ");
        Check.dueRight("any answers worn,hurt if[fault=1]or not[(days)<2];");
    }

    // Section 1: "blanks (32)": no other byte is one.
    private static void blanksAreNot31Or33() {
        for (char sign = 0; sign < 256; sign++) {
            boolean right = sign == ' ';
            String text = "any" + sign + "twice;";
            boolean letter = sign >= 'a' && sign <= 'z';
            if (right) {
                Check.dueRight(text);
            } else {
                Check.dueFault(text, 1, letter ? 0 : 3);
            }
            String ahead = sign + "any twice;";
            if (right) {
                Check.dueRight(ahead);
            } else {
                Check.dueFault(ahead, 1, 0);
            }
            String atTheEnd = "any twice;" + sign;
            if (right) {
                Check.dueRight(atTheEnd);
            } else {
                Check.dueFault(atTheEnd, 1, 10);
            }
        }
    }

    // Section 1: "At most 24 CLAUSES": there may be 24, and the last of them counts.
    private static void clauses24() {
        String[] clauses = {"any answers all;", "any swears all;", "any owes 8;", "any lets 3;", "any twice;",
            "mixed last;"};
        for (int sort = 0; sort < 6; sort++) {
            KeepingHands x = with("free lets 1;".repeat(23) + clauses[sort], clauses[sort].repeat(24));
            x.put(0, 3);
            x.put(1, 5);
            for (int law = 0; law < 2; law++) {
                int n = law;
                Check.due("24 clauses, answers", sort == 0 ? 1 : 0, () -> x.words(n, 0, 0, 9, 0, 0));
                Check.due("24 clauses, swears", sort == 1 ? 1 : 0, () -> x.words(n, 0, 0, 9, 0, 1));
                Check.due("24 clauses, owes", sort == 2 ? 8 : 9, () -> x.words(n, 0, 0, 9, 0, 2));
                Check.dueIf("24 clauses, lets", sort == 3, () -> x.lets(n, 0, 3));
                Check.dueIf("24 clauses, twice", sort == 4, () -> x.lets(n, 0, 0));
                x.force(n);
                Check.due("24 clauses, mixed", sort == 5 ? 32 : 0, () -> x.share(1, 4));
            }
        }
    }

    // Section 1, FAULTS: "3 a 25th CLAUSE", at its first byte, of whatever sort
    private static void clauses25() {
        String full = "any twice;".repeat(24);
        Check.dueRight(full);
        Check.dueRight(full + "   ");
        for (String more : new String[] {"any answers all;", "any swears all;", "any owes 8;", "any lets 3;", "any twice;",
            "mixed last;", "free", "work", "mixed", "any any"}) {
            Check.dueFault(full + more, 3, 240);
            Check.dueFault(full + "   " + more, 3, 243);
        }
        Check.dueFault("mixed last;".repeat(25), 3, 264);
        Check.dueFault("mixed last;".repeat(40), 3, 264);
        Check.dueFault("any lets 1;".repeat(26), 3, 264);
    }

    // Section 1: "of mixed the last counts."
    private static void lastMixed() {
        KeepingHands x = with("mixed parts;mixed last;", "mixed last;mixed parts;", "mixed parts;any twice;",
            "mixed parts;".repeat(23) + "mixed last;");
        x.put(0, 3);
        x.put(1, 5);
        int[] due = {32, 20, 20, 32};
        for (int law = 0; law < 4; law++) {
            x.force(law);
            Check.due("by law " + law, due[law], () -> x.share(1, 4));
        }
    }

    // Section 1, FAULTS: "the first from the left"
    private static void firstFromTheLeft() {
        Check.dueFault("any owes 10000 #", 2, 9);
        Check.dueFault("any owes # 10000", 1, 9);
        Check.dueFault("any owes 10000+((((((((1))))))));", 2, 9);
        Check.dueFault("any owes (((((((10000)))))));", 3, 15);
        Check.dueFault("any owes ((((((10000))))))", 2, 15);
        Check.dueFault("any owes ((((((1))))))#(((((((", 1, 22);
        Check.dueFault("any twice;".repeat(23) + "any lets 4;any twice;any twice;", 2, 239);
        Check.dueFault("any twice;".repeat(24) + "any lets 4;", 3, 240);
        Check.dueFault("any lets 1,#,4;", 1, 11);
        Check.dueFault("any lets 4,#;", 2, 9);
    }

    // Section 1, FAULTS: "at its first byte"
    private static void atItsFirstByte() {
        Check.dueFault("any     twisted;", 1, 8);
        Check.dueFault("any owes     123456;", 2, 13);
        Check.dueFault("any owes ((((((      (1)))))));", 3, 21);
        Check.dueFault("any answers all if not not not not not not      not 1=1;", 3, 48);
        Check.dueFault("any answers all if [[[[[[      [1=1]]]]]]];", 3, 31);
        Check.dueFault("any owes 1      2;", 1, 16);
        Check.dueFault("any owes 1      value;", 1, 16);
        Check.dueFault("any      123456;", 1, 9);
    }

    // Section 1, FAULTS: "1 what can't stand there (at the length, if the text ends too early)"
    private static void endsTooEarly() {
        StringBuilder text = new StringBuilder();
        for (String token : TOKENS) {
            text.append(token);
            if (token.equals(";")) {
                Check.dueRight(text.toString());
                Check.dueRight(text + "  ");
            } else {
                Check.dueFault(text.toString(), 1, text.length());
                Check.dueFault(text + "   ", 1, text.length() + 3);
            }
            text.append(' ');
        }
        // The length is n, whatever stands behind it on the tape.
        KeepingHands x = new KeepingHands();
        Check.feed(x, "any owes 12  ;");
        Check.due("n ends in a number", -9, () -> x.law(10));
        Check.due("at n", 10, x::fault);
        Check.feed(x, "any owes 12  ;");
        Check.due("n ends in blanks", -9, () -> x.law(12));
        Check.due("at n, behind a blank", 12, x::fault);
        Check.feed(x, "any twice;");
        Check.due("n ends in a word", -9, () -> x.law(8));
        Check.due("at the word", 4, x::fault);
    }

    // Section 1, FAULTS: "a 7th of ( [ and not that is open at one time": six may be.
    private static void sixOpen() {
        KeepingHands x = with("any owes ((((((5))))));", "any owes most(1,most(1,most(1,most(1,most(1,most(1,6))))));",
            "any answers all if [[[[[[1=1]]]]]];", "any answers all if not not not not not not 1=1;");
        Check.due("six (", 5, () -> x.words(0, 0, 0, 0, 0, 2));
        Check.due("six most(", 6, () -> x.words(1, 0, 0, 0, 0, 2));
        Check.due("six [", 1, () -> x.words(2, 0, 0, 0, 0, 0));
        Check.due("six not", 1, () -> x.words(3, 0, 0, 0, 0, 0));
    }

    // Section 1, FAULTS: "3 .. a 7th of ( [ and not that is open at one time"
    private static void sevenOpen() {
        Check.dueFault("any owes (((((((5)))))));", 3, 15);
        Check.dueFault("any owes ((((((((5))))))));", 3, 15);
        Check.dueFault("any owes (((((((", 3, 15);
        Check.dueFault("any answers all if [[[[[[[1=1]]]]]]];", 3, 25);
        Check.dueFault("any answers all if not not not not not not not 1=1;", 3, 43);
        Check.dueFault("any owes 1+(2*(3-(4/(5+(6*(7-(8)))))));", 3, 29);
        Check.dueFault("any answers all if 1=(((((((5)))))));", 3, 27);
        Check.dueFault("any owes ((((((least(1,2)))))));", 3, 20);
        Check.dueFault("any owes most(1,most(1,most(1,most(1,most(1,most(1,(6)))))));", 3, 51);
        Check.dueFault("any owes most(1,most(1,most(1,most(1,most(1,most(1,most(1,6)))))));", 3, 55);
        Check.dueFault("any answers all if (((((((5)))))))=1;", 3, 25);
    }

    // Section 1, FAULTS: "of ( [ and not": they are counted together.
    private static void sevenOfThreeSorts() {
        Check.dueRight("any answers all if not [not [((1))=1]];");
        Check.dueFault("any answers all if not [not [(((1)))=1]];", 3, 31);
        Check.dueRight("any answers all if [[[not not not 1=1]]];");
        Check.dueFault("any answers all if [[[not not not [1=1]]]];", 3, 34);
        Check.dueFault("any answers all if [[[not not not (1)=1]]];", 3, 34);
        Check.dueFault("any answers all if [[[not not not 1=(1)]]];", 3, 36);
        Check.dueFault("any answers all if [[[[[[(1)=1]]]]]];", 3, 25);
        Check.dueFault("any answers all if [[[[[[not 1=1]]]]]];", 3, 25);
        Check.dueFault("any answers all if not not not not not not [1=1];", 3, 43);
        Check.dueRight("any answers all if [[[[[not 1=1]]]]];");
        Check.dueRight("any answers all if [[[[[(1)=1]]]]];");
    }

    // Section 1, FAULTS: "that is open at one time": closed ones are no more counted.
    private static void closedAgain() {
        Check.dueRight("any owes ((((((1))))))+((((((1))))))*((((((1))))));");
        Check.dueRight("any owes (1)+(1)+(1)+(1)+(1)+(1)+(1)+(1)+(1);");
        Check.dueFault("any owes ((((((1))))))+(((((((1)))))));", 3, 29);
        Check.dueRight("any owes (((((1+(1))+(1))+(1))+(1))+(1));");
        Check.dueRight("any owes ((((((1)))))+(1));");
        Check.dueFault("any owes ((((((1)))))+((((((1)))))));", 3, 27);
        Check.dueRight("any answers all if [[[[[[1=1]]]]]]or[[[[[[1=1]]]]]];");
        Check.dueRight("any answers all if ((((((1))))))=((((((1))))));");
        Check.dueRight("any owes ((((((1))))));any owes ((((((1))))));");
        Check.dueRight("any answers all if not not not not not not 1=1;any owes ((((((1))))));");
    }

    // Section 1, FAULTS: "(a not till its B ends)"
    private static void notTillItsBEnds() {
        Check.dueRight("any answers all if not ((((1))))+(((((1)))))=(((((1)))));");
        Check.dueFault("any answers all if not ((((((1))))))=1;", 3, 28);
        Check.dueFault("any answers all if not 1=((((((1))))));", 3, 30);
        Check.dueFault("any answers all if not 1=(((((1)))))+((((((1))))));", 3, 42);
        Check.dueFault("any answers all if not [1=1 and ((((((1))))))=1];", 3, 36);
        Check.dueRight("any answers all if not 1=1 and ((((((1))))))=1;");
        Check.dueRight("any answers all if not 1=1 or ((((((1))))))=1;");
        Check.dueRight("any answers all if not [1=1] or [[[[[[1=1]]]]]];");
        Check.dueRight("any answers all if not not not 1=1 and not not not not not not 1=1;");
        Check.dueRight("any answers all if not 1=1 and not 1=1 and not 1=1 and not 1=1 and not 1=1 and not 1=1 and not 1=1;");
        Check.dueRight("any answers all if [not 1=1 and not 1=1 and not 1=1 and [[[[[1=1]]]]]];");
        Check.dueFault("any answers all if [not 1=1 and not 1=1 and not 1=1 and [[[[[[1=1]]]]]]];", 3, 61);
    }

    // Section 1, FAULTS: "of one the least."
    private static void leastOfOneByte() {
        String full = "any twice;".repeat(24);
        for (String none : new String[] {"#", ";", "twice", "lend", "12345", "all", "not", "(", "["}) {
            Check.dueFault(full + none, 1, 240);
        }
        Check.dueFault("any 12345;", 1, 4);
        Check.dueFault("12345", 1, 0);
        Check.dueFault("any owes 1 12345;", 1, 11);
        Check.dueFault("any lets 1 12345;", 1, 11);
        Check.dueFault("any owes ((((((1(1)))))));", 1, 16);
        Check.dueFault("any owes (((((([1]))))));", 1, 15);
        Check.dueFault("any owes ((((((not 1))))));", 1, 15);
        Check.dueFault("any answers all if [[[[[[1=1 not 1=1]]]]]];", 1, 29);
        Check.dueFault("any answers all if [[[[[[1=1[1=1]]]]]]];", 1, 28);
    }

    // Section 1: "VALUES are whole numbers of 32 bits that wrap": of +
    private static void sumsWrap() {
        alike(MOST + "+1", LEAST);
        alike(MOST + "+" + MOST, "0-2");
        alike(LEAST + "+" + LEAST, "0");
        alike(LEAST + "+(0-1)", MOST);
        holds(MOST + "+1<0", true);
        holds(MOST + ">0", true);
        holds(MOST + "+1<" + MOST, true);
    }

    // Section 1: "VALUES are whole numbers of 32 bits that wrap": of -
    private static void differencesWrap() {
        alike(LEAST + "-1", MOST);
        alike("0-" + LEAST, LEAST);
        alike(MOST + "-" + LEAST, "0-1");
        alike("0-2-" + MOST, MOST);
        holds(LEAST + "-1>0", true);
        holds(LEAST + "<0", true);
    }

    // Section 1: "VALUES are whole numbers of 32 bits that wrap": of *
    private static void productsWrap() {
        alike("9999*9999", "99*1000*1000+980*1000+1");
        alike("9999*9999*9999", "0-1027*1000*1000-349*1000-969");
        alike("256*256*256*256", "0");
        alike("256*256*256*128", LEAST);
        alike("256*256*256*64*3", "0-1073*1000*1000-741*1000-824");
        alike(LEAST + "*(0-1)", LEAST);
        alike(MOST + "*" + MOST, "1");
        alike(MOST + "*2", "0-2");
        KeepingHands x = with("any owes value*value*value;");
        Check.due("it wraps to less than 0", 0, () -> x.words(0, 0, 0, 9999, 0, 2));
    }

    // Section 1: "VALUES are whole numbers of 32 bits that wrap": of /, in the one case that can
    private static void quotientWraps() {
        alike(LEAST + "/(0-1)", LEAST);
        alike(MOST + "/(0-1)", "0-" + MOST);
        alike(LEAST + "/1", LEAST);
        alike(LEAST + "/" + LEAST, "1");
    }

    // Section 1: "/ cuts"
    private static void divisionCuts() {
        alike("7/2", "3");
        alike("(0-7)/2", "0-3");
        alike("7/(0-2)", "0-3");
        alike("(0-7)/(0-2)", "3");
        alike("1/2", "0");
        alike("(0-1)/2", "0");
        alike("9999/9999", "1");
        alike("9998/9999", "0");
        alike("0/7", "0");
    }

    // Section 1: "by 0 it is 0"
    private static void divisionByZero() {
        alike("5/0", "0");
        alike("0/0", "0");
        alike("(0-5)/0", "0");
        alike(LEAST + "/0", "0");
        alike(MOST + "/(3-3)", "0");
        alike("5/(1/2)", "0");
        alike("5/0/0*7+2", "2");
        alike("5/fault", "0");
        KeepingHands x = with("any owes 100/days;", "any owes value/term+1;");
        Check.due("by no days", 0, () -> x.words(0, 0, 0, 0, 0, 2));
        Check.due("by a day", 100, () -> x.words(0, 0, 0, 0, 1, 2));
        Check.due("by no term", 1, () -> x.words(1, 0, 0, 9999, 0, 2));
    }

    // Section 1: "or, and: both sides are worked."
    private static void bothSidesAreWorked() {
        holds("1=1 or 1/0=1", true);
        holds("1/0=1 or 1=1", true);
        holds("1=2 and 1/0=0", false);
        holds("1/0=0 and 1=1", true);
        holds("1/0=0 and 1/0=0 or 1/0=1", true);
        holds("1/0=1 and 1/0=1 or 1/0=1", false);
        String[] so = {"1=1", "1<2", "2>1", "not 1=2", "[1=1]"};
        String[] notSo = {"1=2", "2<1", "1>2", "not 1=1", "[1=2]"};
        for (String one : so) {
            for (int i = 0; i < so.length; i++) {
                holds(one + " and " + so[i], true);
                holds(one + " or " + so[i], true);
                holds("not [" + one + " or " + so[i] + "]", false);
                holds(one + " and " + notSo[i], false);
                holds(one + " or " + notSo[i], true);
                holds(notSo[i] + " and " + one, false);
                holds(notSo[i] + " or " + one, true);
            }
        }
        // What can't be read is a FAULT on a side that could not change the whole, too.
        Check.dueFault("any answers all if 1=1 or 1=;", 1, 28);
        Check.dueFault("any answers all if 1=2 and 1=10000;", 2, 29);
    }

    // Section 1: "E R E; R: <, > or =": of VALUES next to one another, and as far from one another as can be
    private static void comparedAtTheEnds() {
        String[] values = {LEAST, LEAST + "+1", "0-1", "0", "1", MOST + "-1", MOST};
        for (int i = 0; i < values.length; i++) {
            for (int j = 0; j < values.length; j++) {
                holds(values[i] + "<" + values[j], i < j);
                holds(values[i] + ">" + values[j], i > j);
                holds(values[i] + "=" + values[j], i == j);
            }
        }
    }

    // Section 1: ""least" or "most" "(" E "," E ")"": of VALUES next to one another, alike, and far from one another
    private static void leastAndMost() {
        String[] values = {LEAST, "0-1", "0", "1", MOST};
        for (int i = 0; i < values.length; i++) {
            for (int j = 0; j < values.length; j++) {
                alike("least(" + values[i] + "," + values[j] + ")", values[Math.min(i, j)]);
                alike("most(" + values[i] + "," + values[j] + ")", values[Math.max(i, j)]);
            }
        }
    }

    // Section 1: "B: "not" B, "[" C "]", or E R E": one to six of not; it is of its B alone.
    private static void notTurns() {
        for (int nots = 0; nots <= 6; nots++) {
            holds("not ".repeat(nots) + "1=1", nots % 2 == 0);
            holds("not ".repeat(nots) + "1=2", nots % 2 == 1);
        }
        holds("not 1=2 and 1=2", false);
        holds("not [1=2 and 1=2]", true);
        holds("not 1=1 or 1=1", true);
        holds("not [1=1 or 1=1]", false);
        holds("1=1 or 1=1 and 1=2", true);
        holds("[1=1 or 1=1] and 1=2", false);
    }

    // Section 1: six open ( [ and not, and in each of them all that can wait for its other side
    private static void allThatWaitsForSixOpen() {
        String sum = "1+1*";
        String wait = "1=2 or 1=1 and ";
        alike(sum + ("(" + sum).repeat(6) + "1" + ")".repeat(6), "8");
        alike(sum + ("least(1+1*").repeat(6) + "1" + ",9)".repeat(6), "8");
        alike(sum + ("most(1,1+1*").repeat(6) + "1" + ")".repeat(6), "8");
        holds(wait + ("[" + wait).repeat(6) + "8=1+1*7" + "]".repeat(6), true);
        holds(wait + ("[" + wait).repeat(3) + "8=5+1*" + ("(0+1*").repeat(3) + "3" + ")".repeat(3) + "]".repeat(3), true);
        holds(wait + "8=" + sum + ("most(1,1+1*").repeat(6) + "1" + ")".repeat(6), true);
        holds(wait + "8=" + sum + ("least(9,1+1*").repeat(6) + "1" + ")".repeat(6), true);
        holds(wait + ("not [" + wait).repeat(3) + "8=5+1*3" + "]".repeat(3), false);
        holds(wait + ("not [" + wait).repeat(2) + "8=5+1*" + ("most(0,0+1*").repeat(2) + "3" + "))" + "]]", true);
    }

    // Section 1: "a LAW has ANSWERS, if some answers CLAUSE .. has no C, or one that holds; SWEARS likewise"
    private static void answersWithoutClauses() {
        KeepingHands x = with("", "any answers all if 1=2;any swears all if 2=1;",
            "any answers all if 1=2;any answers all;any answers all if 1=2;", "any swears all if 1=2;any swears all if 1=1;");
        int[] answers = {0, 0, 1, 0};
        int[] swears = {0, 0, 0, 1};
        for (int law = 0; law < 4; law++) {
            for (int of : new int[] {0, 1151}) {
                int n = law;
                Check.due("answers of " + n, answers[n], () -> x.words(n, of, 0, 0, 0, 0));
                Check.due("swears of " + n, swears[n], () -> x.words(n, of, 0, 0, 0, 1));
            }
        }
    }

    // Section 1: "OWED: .. 0 at least, 9,999 at most"
    private static void owedAtLeastAndMost() {
        String[] sums = {"0", "1", "0-1", "9999", "9998+1", "9999+1", "9999*9999", MOST, LEAST, MOST + "+1", LEAST + "-1"};
        int[] due = {0, 1, 0, 9999, 9999, 9999, 9999, 9999, 0, 0, 9999};
        for (int i = 0; i < sums.length; i++) {
            KeepingHands x = with("any answers all;any owes " + sums[i] + ";");
            Check.due("owed by " + sums[i], due[i], () -> x.words(0, 0, 0, 50, 0, 2));
            x.force(0);
            x.pass(0, 0, 0, 0, true);
            x.harm(0, 0);
            Check.due("claim by " + sums[i], due[i], () -> x.claim(1));
        }
    }

    // Section 1: "OWED: the VALUE of the last owes CLAUSE for that KEEPING (or any)"
    private static void owedByTheLast() {
        KeepingHands x = with("free owes 1;work owes 2;", "free owes 1;any owes 3;work owes 2;", "any owes 3;free owes 0;",
            "free owes 1;".repeat(23) + "free owes 4;");
        int[] free = {1, 3, 0, 4};
        int[] paid = {9, 3, 3, 9};
        int[] work = {2, 2, 3, 9};
        for (int law = 0; law < 4; law++) {
            int n = law;
            Check.due("free by " + n, free[n], () -> x.words(n, 0, 0, 9, 0, 2));
            Check.due("paid by " + n, paid[n], () -> x.words(n, 192, 0, 9, 0, 2));
            Check.due("work by " + n, work[n], () -> x.words(n, 1151, 0, 9, 0, 2));
        }
    }

    // Section 1: "without one: value."
    private static void owedWithout() {
        KeepingHands x = with("", "paid owes 3;");
        for (int value : new int[] {0, 1, 100, 9999}) {
            Check.due("value " + value, value, () -> x.words(0, 0, 3, value, 9999, 2));
            Check.due("value " + value + " of another keeping", value, () -> x.words(1, 0, 3, value, 9999, 2));
        }
    }

    // Section 1: "LETS: whether a lets CLAUSE for it has that TERM; TWICE: whether there is a twice CLAUSE for it."
    private static void letsAndTwiceWithout() {
        KeepingHands x = with("", "paid lets 1;paid twice;paid lets 3;", "any lets 2;any twice;");
        for (int term = 0; term < 4; term++) {
            int t = term;
            Check.dueIf("by no clause", false, () -> x.lets(0, 1, t));
            Check.dueIf("by clauses for it", t != 2, () -> x.lets(1, 1, t));
            Check.dueIf("by clauses for another", false, () -> x.lets(1, 2, t));
            Check.dueIf("by any", t == 2 || t == 0, () -> x.lets(2, 5, t));
        }
    }

    // Section 1: "CLAIM: OWED, if it has ANSWERS, or SWEARS and one has not sworn; else 0."
    private static void claimElseNothing() {
        KeepingHands x = with("any answers all if fault=1;any swears all if use=1;any owes 60;");
        x.force(0);
        x.pass(0, 0, 0, 0, true);
        x.harm(0, 0);
        for (int bits = 0; bits < 8; bits++) {
            boolean answers = (bits & 1) > 0;
            boolean swears = (bits & 2) > 0;
            boolean sworn = (bits & 4) > 0;
            x.fact(1, 0, answers);
            x.fact(1, 2, swears);
            x.fact(1, 3, sworn);
            Check.due("claim " + bits, answers || swears && !sworn ? 60 : 0, () -> x.claim(1));
        }
    }

    // Section 1: "In force is one LAW, or none (at first: no CLAIMS, nothing is let, twice, mixed)."
    private static void noneInForce() {
        KeepingHands x = with("any swears all;any lets 1,2,3;any twice;mixed last;");
        x.pass(0, 0, 0, 3, true);
        x.harm(0, 0);
        x.put(0, 2);
        for (int round = 0; round < 2; round++) {
            Check.due("no claim", 0, () -> x.claim(1));
            Check.dueIf("no oath", false, () -> x.must(1));
            Check.due("nothing is let", 0, () -> x.name(1, 5));
            Check.due("no title", 0, x::title);
            Check.due("nothing twice", 0, () -> x.found(1, 5));
            Check.due("nothing mixed", 0, () -> x.share(0, 2));
            Check.due("in force then", NONE, () -> x.force(0));
            Check.due("a claim", 100, () -> x.claim(1));
            Check.dueIf("an oath", true, () -> x.must(1));
            Check.due("a term is let", 3, () -> x.name(1, 5));
            Check.due("title", 1, x::title);
            Check.due("twice", 10, () -> x.found(1, 5));
            Check.due("mixed", 4, () -> x.share(0, 2));
            Check.due("none again", 0, () -> x.force(NONE));
        }
    }
}
