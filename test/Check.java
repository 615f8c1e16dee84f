import java.util.NoSuchElementException;

/** What the tests share: answers that are due, calls that throw, and laws fed as texts. */
final class Check {
    static final int WRONG_ARGUMENT = -1001;
    static final int NO_SUCH = -1002;

    private static int wrong = 0;

    private Check() {
    }

    interface Call {
        int answer();
    }

    interface Asked {
        boolean answer();
    }

    /** An exception counts as an answer of its own, far from every number that is due. */
    static void due(String what, int want, Call call) {
        int got;
        try {
            got = call.answer();
        } catch (NoSuchElementException e) {
            got = NO_SUCH;
        } catch (IllegalArgumentException e) {
            got = WRONG_ARGUMENT;
        }
        if (got != want) {
            wrong++;
            System.out.println(what + ": answered " + told(got) + ", due is " + told(want));
        }
    }

    static void dueIf(String what, boolean want, Asked asked) {
        due(what, want ? 1 : 0, () -> asked.answer() ? 1 : 0);
    }

    private static String told(int answer) {
        if (answer == NO_SUCH) {
            return "NoSuchElementException";
        }
        return answer == WRONG_ARGUMENT ? "IllegalArgumentException" : String.valueOf(answer);
    }

    /** Feeds a text; what fills the last twenty is 0. */
    static void feed(KeepingHands x, String text) {
        for (int i = 0; i < text.length(); i += 20) {
            x.feed(four(text, i), four(text, i + 4), four(text, i + 8), four(text, i + 12), four(text, i + 16));
        }
    }

    private static int four(String text, int from) {
        int number = 0;
        for (int i = from; i < from + 4; i++) {
            number = number << 8 | (i < text.length() ? text.charAt(i) : 0);
        }
        return number;
    }

    static int law(KeepingHands x, String text) {
        feed(x, text);
        return x.law(text.length());
    }

    /** A text that is no LAW: which FAULT it has, and where. */
    static void dueFault(String text, int fault, int place) {
        KeepingHands x = new KeepingHands();
        due("law \"" + text + "\"", fault - 10, () -> law(x, text));
        due("place of the fault of \"" + text + "\"", place, x::fault);
    }

    static void dueRight(String text) {
        KeepingHands x = new KeepingHands();
        due("law \"" + text + "\"", 0, () -> law(x, text));
        due("no fault of \"" + text + "\"", KeepingHands.NONE, x::fault);
    }

    static void end() {
        if (wrong != 0) {
            System.out.println(wrong + " answers are not as due");
            System.exit(1);
        }
    }
}
