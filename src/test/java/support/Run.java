import java.io.IOException;
import java.nio.file.Files;
import java.nio.file.Path;

/**
 * Calls on one new object, for one sentence of the document. It sees to it that the sentence stands in the
 * document, that what leads up to the answers is not refused, and that no object is used for more than 512 calls.
 */
final class Run {
    private static final Path DOCUMENT = Path.of("../shared/DOC.md");
    private static final int MOST_CALLS = 512;
    private static final String TEXT = read();

    private final Checks checks;
    private final CutBureau x = new CutBureau();
    private int calls = 0;

    Run(Checks checks, String sentence) {
        this.checks = checks;
        checks.about("\"" + sentence + "\"");
        checks.dueTrue("the document does not say so", TEXT.isEmpty() || TEXT.contains(sentence));
    }

    private static String read() {
        try {
            return Files.exists(DOCUMENT) ? Files.readString(DOCUMENT).replaceAll("\\s+", " ") : "";
        } catch (IOException e) {
            return "";
        }
    }

    private int call(String text) {
        calls++;
        checks.dueTrue("more than 512 calls on one object", calls <= MOST_CALLS);
        return new Call(text).on(x);
    }

    /** Calls that only lead up to others: none of them may be refused, as far as the answer tells. */
    Run by(String... texts) {
        for (String text : texts) {
            int got = call(text);
            boolean mayBeNegative = text.startsWith("counts(");
            checks.dueTrue(text + " was refused with " + got, got >= 0 || got == CutBureau.NONE || mayBeNegative);
        }
        return this;
    }

    Run by(int times, String text) {
        for (int i = 0; i < times; i++) {
            by(text);
        }
        return this;
    }

    /** Each of the calls answers this. */
    Run due(int want, String... texts) {
        for (String text : texts) {
            checks.due(text, call(text), want);
        }
        return this;
    }

    /** Words one after the other from a place on. */
    Run words(int page, int place, int... words) {
        for (int i = 0; i < words.length; i++) {
            by("write(" + page + ", " + (place + i) + ", " + words[i] + ")");
        }
        return this;
    }

    /** One word in many places, one after the other. */
    Run fill(int page, int place, int count, int word) {
        for (int i = 0; i < count; i++) {
            by("write(" + page + ", " + (place + i) + ", " + word + ")");
        }
        return this;
    }

    Run say(String rule) {
        for (int i = 0; i < rule.length(); i++) {
            by("say(" + (int) rule.charAt(i) + ")");
        }
        return this;
    }

    /** An order of client 0 for all papers and days, of 20 a day. */
    Run order(String rule, boolean once) {
        return say(rule).by("order(0, 1023, 0, 99, 20, " + once + ")");
    }

    /** The fault of a text, after which there are no signs. */
    Run fault(int want, String text) {
        by("wipe()").say(text);
        checks.due("fault() of " + text, call("fault()"), want);
        return by("wipe()");
    }

    /** Whether the rule of an order is so of a piece; the order is a new one. */
    Run so(int want, int order, String rule, int piece) {
        order(rule, false);
        checks.due("the rule " + rule + " of piece " + piece, call("wants(" + order + ", " + piece + ", 1)"), want);
        return this;
    }
}
