/** Compares answers with those that are due, and ends the test. */
final class Due {
    static final int UNKNOWN = -1, OUTSIDE = -2, STATE = -3, FULL = -4, NONE = -6, FAULT = -7;
    static final int MANY = 999999999;

    private static int wrong = 0;
    private static int asked = 0;
    private static String about = "";

    private Due() {
    }

    /** What the next answers are about; it stands before each that is wrong. */
    static void about(String sentence) {
        about = sentence.isEmpty() ? "" : sentence + ": ";
    }

    static int asked() {
        return asked;
    }

    static void is(String call, long got, long want) {
        asked++;
        if (got != want) {
            wrong++;
            System.out.println(about + call + " answered " + got + ", due is " + want);
        }
    }

    /** Says a text, sign by sign. */
    static void say(OnceProver x, String text) {
        for (int i = 0; i < text.length(); i++) {
            x.say(text.charAt(i));
        }
    }

    /** Makes what the texts tell: r: a resource, w: a well, g: the goal. */
    static OnceProver with(String... texts) {
        OnceProver x = new OnceProver();
        add(x, texts);
        return x;
    }

    static void add(OnceProver x, String... texts) {
        for (String text : texts) {
            say(x, text.substring(2));
            int answer = text.charAt(0) == 'r' ? x.resource() : text.charAt(0) == 'w' ? x.well() : x.goal();
            if (answer < 0) {
                is("reading " + text, answer, 0);
            }
        }
    }

    /** The code of the first proof, the numbers parted by commas; "none" if there is no proof. */
    static String code(OnceProver x) {
        int length = x.term(-1);
        if (length < 0) {
            return "none";
        }
        StringBuilder all = new StringBuilder();
        for (int i = 0; i < length; i++) {
            all.append(i == 0 ? "" : ",").append(x.term(i));
        }
        return all.toString();
    }

    static void same(String what, String got, String want) {
        asked++;
        if (!got.equals(want)) {
            wrong++;
            System.out.println(about + what + " is " + got + ", due is " + want);
        }
    }

    static void puts(OnceProver x, int... numbers) {
        x.trial(0);
        for (int number : numbers) {
            x.put(number);
        }
    }

    /** The three answers of check. */
    static void checks(String what, OnceProver x, int verdict, int used, int deepest) {
        is(what + ": check(0)", x.check(0), verdict);
        is(what + ": check(1)", x.check(1), used);
        is(what + ": check(2)", x.check(2), deepest);
    }

    static void end() {
        System.out.println(wrong == 0 ? asked + " answers are as due" : wrong + " answers are not as due");
        if (wrong != 0 || asked == 0) {
            System.exit(1);
        }
    }
}
