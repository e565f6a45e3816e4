/** Counts and prints the answers that are not as due. */
final class Checks {
    private int wrong = 0;
    private String part = "";

    /** What the next answers are about: a promise, a rule, a seed. */
    void about(String text) {
        part = text;
    }

    void due(String call, long got, long want) {
        if (got != want) {
            wrong++;
            System.out.println(part + ": " + call + " answered " + got + ", due is " + want);
        }
    }

    void dueTrue(String what, boolean so) {
        if (!so) {
            wrong++;
            System.out.println(part + ": " + what);
        }
    }

    boolean allAsDue() {
        return wrong == 0;
    }

    void end() {
        System.out.println(wrong == 0 ? "all answers are as due" : wrong + " answers are not as due");
        if (wrong != 0) {
            System.exit(1);
        }
    }

    /** Says every sign of a text. */
    static void say(CutBureau x, String text) {
        for (int i = 0; i < text.length(); i++) {
            x.say(text.charAt(i));
        }
    }

    /** The fault of a text, after which there are no signs. */
    static int faultOf(CutBureau x, String text) {
        x.wipe();
        say(x, text);
        int fault = x.fault();
        x.wipe();
        return fault;
    }

    /** An order of client 0 for all papers and days, of 20 a day. */
    static int order(CutBureau x, String rule, boolean once) {
        x.wipe();
        say(x, rule);
        return x.order(0, 1023, 0, 99, 20, once);
    }

    /** Writes words one after the other from a place on. */
    static void write(CutBureau x, int page, int place, int... words) {
        for (int i = 0; i < words.length; i++) {
            x.write(page, place + i, words[i]);
        }
    }
}
