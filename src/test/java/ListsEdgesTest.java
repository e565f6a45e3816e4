/** The boundary cases of section 3 and of promises 15 to 17, each sentence of the document by itself. */
public final class ListsEdgesTest {
    private static final Checks CHECKS = new Checks();

    public static void main(String[] args) {
        leastChanges();
        changesOfSixty();
        droppedPutInMade();
        bothHaveWords();
        alikeAtFirst();
        ofTheLongerOne();
        alikeZero();
        alikeHundred();
        longestDoubles();
        doublesOfDoubles();
        firstOfFamily();
        greatestFamily();
        piecesOfThatDay();
        byPapersThenNumbers();
        onceByDay();
        onceByPaper();
        onceByNumber();
        onceOnlyThoseWanted();
        onceThenMost();
        asManyAsTheMost();
        changes();
        set();
        setRefused();
        list();
        CHECKS.end();
    }

    private static Run run(String sentence) {
        return new Run(CHECKS, sentence);
    }

    private static void leastChanges() {
        Run x = run("CHANGES of two PIECES: the least number of WORDS");
        x.by("page(0, 0)").words(0, 0, 1, 2, 3).words(0, 10, 1, 2, 3).words(0, 20, 3, 1, 2).words(0, 30, 9);
        for (int line = 0; line < 6; line++) {
            x.by("piece(0, " + line + ", " + line + ", 0, 9)");
        }
        x.due(0, "changes(0, 0)", "changes(0, 1)", "changes(4, 4)", "changes(4, 5)");
        x.due(2, "changes(0, 2)", "changes(2, 0)")
                .due(3, "changes(0, 3)", "changes(3, 0)", "changes(0, 4)", "changes(4, 0)");
        x.due(1, "changes(3, 4)", "changes(4, 3)");
    }

    private static void changesOfSixty() {
        Run x = run("by which the WORDS of one become those of the other.");
        x.by("page(0, 0)", "page(0, 0)", "page(0, 0)").fill(0, 0, 60, 1).fill(1, 0, 60, 2);
        x.by("piece(0, 0, 5, 0, 9)", "piece(1, 0, 5, 0, 9)", "piece(2, 0, 5, 0, 9)", "piece(0, 0, 5, 0, 9)");
        x.by("piece(0, 0, 0, 0, 0)");
        x.due(60, "changes(0, 1)", "changes(1, 0)", "changes(0, 2)", "changes(2, 0)")
                .due(0, "changes(0, 3)", "changes(2, 2)");
        x.due(59, "changes(0, 4)", "changes(4, 0)").due(60, "changes(4, 1)").due(1, "changes(4, 2)");
    }

    private static void droppedPutInMade() {
        Run x = run("that are dropped, put in, or made another one");
        x.by("page(0, 0)").words(0, 0, 1, 2, 3, 4).words(0, 10, 2, 3, 4).words(0, 20, 1, 2, 5, 3, 4)
                .words(0, 30, 1, 2, 6, 4);
        x.words(0, 40, 2, 1, 3, 4);
        for (int line = 0; line < 5; line++) {
            x.by("piece(0, " + line + ", " + line + ", 0, 9)");
        }
        x.due(1, "changes(0, 1)", "changes(1, 0)", "changes(0, 2)", "changes(2, 0)", "changes(0, 3)", "changes(3, 0)");
        x.due(2, "changes(0, 4)", "changes(4, 0)", "changes(1, 2)", "changes(2, 3)");
    }

    private static void bothHaveWords() {
        Run x = run("DOUBLES: two that both have WORDS");
        x.by("page(0, 0)", "set(0, 100)", "piece(0, 0, 0, 0, 9)", "piece(0, 1, 1, 0, 9)", "piece(0, 2, 2, 0, 9)");
        x.due(1, "about(0, 5)", "about(1, 5)", "about(2, 5)", "about(1, 4)").due(2, "about(2, 4)")
                .due(0, "about(0, 4)");
        x.by("write(0, 10, 5)").due(1, "about(0, 5)", "about(1, 5)", "about(2, 5)");
        x.by("write(0, 20, 6)").due(1, "about(0, 5)").due(2, "about(1, 5)", "about(2, 5)").due(1, "about(2, 4)");
        x.by("write(0, 10, -1)").due(1, "about(2, 5)").due(2, "about(2, 4)");
    }

    private static void alikeAtFirst() {
        Run x = run("if CHANGES times 100 are no more than ALIKE (0 to 100; 20 at first)");
        x.by("page(0, 0)").words(0, 0, 1, 2, 3, 4, 5).words(0, 10, 1, 2, 3, 4, 9).words(0, 20, 1, 2, 3, 8, 8);
        x.by("piece(0, 0, 0, 0, 9)", "piece(0, 1, 1, 0, 9)");
        x.due(2, "about(0, 5)").by("set(0, 19)").due(1, "about(0, 5)").by("set(0, 20)").due(2, "about(0, 5)");
        x.by("piece(0, 2, 2, 0, 9)").due(1, "about(2, 5)").by("set(0, 39)").due(1, "about(2, 5)");
        x.by("set(0, 40)").due(3, "about(2, 5)");
        x.due(-2, "set(0, -1)", "set(0, 101)").due(40, "set(0, 0)").due(0, "set(0, 100)").due(100, "told(10)");
    }

    private static void ofTheLongerOne() {
        Run x = run("times the WORDS of the longer one.");
        x.by("page(0, 0)").words(0, 0, 1, 2, 3, 4).words(0, 10, 1, 2, 3, 4, 5).words(0, 20, 7, 7, 7).words(0, 30, 7, 7);
        x.by("piece(0, 0, 0, 0, 9)", "piece(0, 1, 1, 0, 9)", "piece(0, 2, 2, 0, 9)", "piece(0, 3, 3, 0, 9)");
        x.due(2, "about(0, 5)", "about(1, 5)").due(1, "about(2, 5)");
        x.by("set(0, 33)").due(1, "about(2, 5)", "about(3, 5)").by("set(0, 34)").due(2, "about(2, 5)", "about(3, 5)");
        x.by("set(0, 19)").due(1, "about(0, 5)", "about(1, 5)");
    }

    private static void alikeZero() {
        Run x = run("ALIKE (0 to 100; 20 at first)");
        x.by("page(0, 0)", "set(0, 0)").words(0, 0, 1, 2).words(0, 10, 1, 2).words(0, 20, 1, 3);
        x.by("piece(0, 0, 0, 0, 9)", "piece(0, 1, 1, 0, 9)", "piece(0, 2, 2, 0, 9)", "piece(0, 3, 3, 0, 9)",
                "piece(0, 3, 3, 0, 0)");
        x.due(2, "about(0, 5)", "about(1, 5)").due(1, "about(2, 5)", "about(3, 5)", "about(4, 5)");
    }

    private static void alikeHundred() {
        Run x = run("CHANGES times 100 are no more than ALIKE (0 to 100; 20 at first) times the WORDS of the longer one.");
        x.by("page(0, 0)", "set(0, 100)").words(0, 0, 1, 2, 3).words(0, 10, 9).words(0, 20, 4, 5);
        x.by("piece(0, 0, 0, 0, 9)", "piece(0, 1, 1, 0, 9)", "piece(0, 3, 3, 0, 9)");
        x.due(2, "about(0, 5)", "about(1, 5)").due(1, "about(2, 5)").by("set(0, 99)")
                .due(1, "about(0, 5)", "about(1, 5)");
        x.by("piece(0, 2, 2, 0, 9)", "set(0, 100)").due(3, "about(0, 5)", "about(3, 5)");
    }

    private static void longestDoubles() {
        Run x = run("CHANGES times 100 are no more than ALIKE");
        x.by("page(0, 0)", "page(0, 0)", "piece(0, 0, 5, 0, 9)", "piece(1, 0, 5, 0, 9)").fill(0, 0, 60, 1)
                .fill(1, 0, 48, 1);
        x.due(12, "changes(0, 1)").due(2, "about(0, 5)").by("write(1, 47, -1)").due(13, "changes(0, 1)")
                .due(1, "about(0, 5)");
        x.fill(1, 47, 13, 2).due(13, "changes(1, 0)").due(1, "about(1, 5)").by("write(1, 59, 1)").due(2, "about(1, 5)");
        x.by("set(0, 0)").due(1, "about(0, 5)").fill(1, 47, 12, 1).due(2, "about(0, 5)");
    }

    private static void doublesOfDoubles() {
        Run x = run("A FAMILY: a PIECE, its DOUBLES, theirs, and so on");
        x.by("page(0, 0)").words(0, 0, 1, 2, 3, 4, 5).words(0, 10, 1, 2, 3, 4, 9).words(0, 20, 1, 2, 3, 9, 9);
        x.words(0, 30, 1, 2, 9, 9, 9).words(0, 40, 1, 9, 9, 9, 9).words(0, 50, 8, 8, 8, 8, 8);
        for (int line = 5; line >= 0; line--) {
            x.by("piece(0, " + line + ", " + line + ", 0, 9)");
        }
        x.due(1, "about(0, 5)").due(0, "about(0, 4)");
        for (int i = 1; i < 6; i++) {
            x.due(5, "about(" + i + ", 5)").due(1, "about(" + i + ", 4)");
        }
        x.by("write(0, 20, 7)").due(2, "about(1, 5)", "about(2, 5)", "about(4, 5)", "about(5, 5)")
                .due(1, "about(3, 5)");
        x.due(1, "about(2, 4)").due(3, "about(3, 4)").due(4, "about(5, 4)");
    }

    private static void firstOfFamily() {
        Run x = run("its first one: that of the least DAY, PAPER, number.");
        String[] pages = {"page(0, 99)", "page(9, 98)", "page(8, 98)", "page(8, 98)", "page(9, 0)"};
        x.by(pages);
        int[] first = {0, 1, 2, 2, 4};
        for (int i = 0; i < 5; i++) {
            x.by("write(" + i + ", 0, 1)", "piece(" + i + ", 0, 0, 0, 0)");
            for (int k = 0; k <= i; k++) {
                x.due(first[i], "about(" + k + ", 4)").due(i + 1, "about(" + k + ", 5)");
            }
        }
    }

    private static void greatestFamily() {
        Run x = run("5 how many are in that.");
        x.by("page(0, 0)", "write(0, 0, 1)").by(24, "piece(0, 0, 0, 0, 0)");
        x.due(24, "about(0, 5)", "about(23, 5)").due(0, "about(0, 4)", "about(23, 4)").order("1", true);
        x.due(1, "list(0, 0, -1)").due(0, "list(0, 0, 0)").by("write(0, 0, -1)").due(1, "about(0, 5)")
                .due(23, "about(23, 4)");
    }

    private static void piecesOfThatDay() {
        Run x = run("LIST of an ORDER of a DAY: PIECES of PAGES of that DAY that it WANTS");
        x.by("page(0, 0)", "page(0, 1)", "page(0, 98)", "page(0, 99)");
        for (int page = 0; page < 4; page++) {
            x.by("piece(" + page + ", 0, 0, 0, 0)");
        }
        x.order("!1", false).say("!1").by("order(0, 1023, 1, 98, 20, false)");
        x.due(1, "list(0, 0, -1)", "list(0, 1, -1)", "list(0, 98, -1)", "list(0, 99, -1)", "list(1, 1, -1)",
                "list(1, 98, -1)");
        x.due(0, "list(0, 0, 0)", "list(0, 2, -1)", "list(0, 97, -1)", "list(1, 0, -1)", "list(1, 99, -1)");
        x.due(3, "list(0, 99, 0)").due(2, "list(1, 98, 0)").due(-6, "list(1, 99, 0)", "list(1, 0, 0)");
    }

    private static void byPapersThenNumbers() {
        Run x = run("by PAPERS, then numbers");
        x.by("page(9, 3)", "page(0, 3)", "page(0, 3)", "page(8, 3)");
        x.by("piece(0, 0, 0, 0, 0)", "piece(2, 0, 0, 0, 0)", "piece(1, 0, 0, 0, 0)", "piece(3, 0, 0, 0, 0)");
        x.by("piece(2, 0, 0, 0, 0)", "piece(0, 0, 0, 0, 0)").order("!1", false);
        int[] due = {1, 2, 4, 3, 0, 5};
        x.due(6, "list(0, 3, -1)");
        for (int i = 0; i < 6; i++) {
            x.due(due[i], "list(0, 3, " + i + ")");
        }
        x.due(-6, "list(0, 3, 6)");
    }

    private static void onceByDay() {
        Run x = run("if ONCE, without those ahead of which (by DAY, PAPER, number)");
        x.by("page(0, 6)", "page(9, 5)", "write(0, 0, 1)", "write(1, 0, 1)");
        x.by("piece(0, 0, 0, 0, 0)", "piece(1, 0, 0, 0, 0)").order("1", true).order("1", false);
        x.due(1, "list(0, 5, -1)", "list(0, 5, 0)").due(0, "list(0, 6, -1)");
        x.due(1, "list(1, 5, -1)", "list(1, 6, -1)");
    }

    private static void onceByPaper() {
        Run x = run("(by DAY, PAPER, number)");
        x.by("page(5, 6)", "page(4, 6)", "write(0, 0, 1)", "write(1, 0, 1)");
        x.by("piece(0, 0, 0, 0, 0)", "piece(1, 0, 0, 0, 0)").order("1", true);
        x.due(1, "list(0, 6, -1)", "list(0, 6, 0)").due(-6, "list(0, 6, 1)").by("write(1, 0, 2)")
                .due(0, "list(0, 6, 0)");
    }

    private static void onceByNumber() {
        Run x = run("ahead of which (by DAY, PAPER, number) there is one of their FAMILY");
        x.by("page(5, 6)", "page(5, 6)", "write(0, 0, 1)", "write(1, 0, 1)");
        x.by("piece(1, 0, 0, 0, 0)", "piece(0, 0, 0, 0, 0)", "piece(1, 0, 0, 0, 0)").order("1", true);
        x.due(1, "list(0, 6, -1)").due(0, "list(0, 6, 0)").by("write(1, 0, -1)")
                .due(1, "list(0, 6, -1)", "list(0, 6, 0)");
    }

    private static void onceOnlyThoseWanted() {
        Run x = run("there is one of their FAMILY that it WANTS, too");
        x.by("page(0, 5)", "page(1, 6)", "page(2, 6)").words(0, 0, 1, 2, 3, 4, 5).words(1, 0, 1, 2, 3, 4, 9);
        x.words(2, 0, 1, 2, 3, 9, 9).by("piece(0, 0, 0, 0, 9)", "piece(1, 0, 0, 0, 9)", "piece(2, 0, 0, 0, 9)");
        x.order("1", true).order("9", true).order("5|9>1", true).say("1").by("order(0, 6, 0, 99, 20, true)");
        x.say("1").by("order(0, 1023, 6, 99, 20, true)").say("1").by("order(0, 1023, 5, 99, 20, true)");
        x.due(1, "list(0, 5, -1)").due(0, "list(0, 6, -1)");
        x.due(0, "list(1, 5, -1)").due(1, "list(1, 6, -1)", "list(1, 6, 0)");
        x.due(1, "list(2, 5, -1)").due(0, "list(2, 6, -1)");
        x.due(1, "list(3, 6, -1)", "list(3, 6, 0)", "list(4, 6, -1)", "list(4, 6, 0)").due(0, "list(5, 6, -1)");
    }

    private static void onceThenMost() {
        Run x = run("of these the first ones, as many as the MOST.");
        x.by("page(0, 0)").words(0, 0, 1, 2, 3)
                .by("piece(0, 0, 0, 0, 0)", "piece(0, 0, 0, 0, 0)", "piece(0, 0, 0, 1, 1)");
        x.by("piece(0, 0, 0, 1, 1)", "piece(0, 0, 0, 2, 2)").say("1|2|3").by("order(0, 1, 0, 0, 2, true)");
        x.say("1|2|3").by("order(0, 1, 0, 0, 3, true)").say("1|2|3").by("order(0, 1, 0, 0, 0, true)");
        x.due(2, "list(0, 0, -1)", "list(0, 0, 1)").due(0, "list(0, 0, 0)").due(-6, "list(0, 0, 2)");
        x.due(3, "list(1, 0, -1)").due(4, "list(1, 0, 2)").due(0, "list(2, 0, -1)").due(-6, "list(2, 0, 0)");
    }

    private static void asManyAsTheMost() {
        Run x = run("as many as the MOST");
        x.by("page(1, 0)", "page(0, 0)").by(12, "piece(0, 0, 0, 0, 0)").by(12, "piece(1, 0, 0, 0, 0)");
        x.order("!1", false).say("!1").by("order(0, 3, 0, 0, 19, false)").say("!1").by("order(0, 3, 0, 0, 1, false)");
        x.due(20, "list(0, 0, -1)").due(12, "list(0, 0, 0)").due(7, "list(0, 0, 19)").due(-6, "list(0, 0, 20)");
        x.due(19, "list(1, 0, -1)").due(6, "list(1, 0, 18)").due(-6, "list(1, 0, 19)");
        x.due(1, "list(2, 0, -1)").due(12, "list(2, 0, 0)").due(-6, "list(2, 0, 1)");
    }

    private static void changes() {
        Run x = run("CHANGES. UNKNOWN.");
        x.due(-1, "changes(0, 0)").by("page(0, 0)", "write(0, 0, 1)", "piece(0, 0, 0, 0, 0)", "piece(0, 0, 0, 1, 1)");
        x.due(0, "changes(0, 0)", "changes(1, 1)").due(1, "changes(0, 1)", "changes(1, 0)");
        x.due(-1, "changes(2, 0)", "changes(0, 2)", "changes(-1, 0)", "changes(0, -1)", "changes(2, 2)",
                "changes(-1, -1)");
        x.due(-1, "changes(MIN, 0)", "changes(0, MAX)");
    }

    private static void set() {
        Run x = run("0 ALIKE, 1 REACH, 2 SURE, 3 UNREAD, 4 TIER, 5 to 7 PRICES 0 to 2, 8 BACK: which it was. OUTSIDE.");
        int[] first = {20, 5, 10, 500, 100, 3, 2, 1, 0};
        int[] least = {0, 0, 1, 0, 1, 0, 0, 0, 0};
        int[] greatest = {100, 20, 1000, 1000, 100, 1000, 1000, 1000, 1000};
        for (int i = 0; i < 9; i++) {
            x.due(-2, "set(" + i + ", " + (least[i] - 1) + ")", "set(" + i + ", " + (greatest[i] + 1) + ")");
            x.due(-2, "set(" + i + ", MIN)", "set(" + i + ", MAX)").due(first[i], "told(" + (10 + i) + ")");
            x.due(first[i], "set(" + i + ", " + least[i] + ")").due(least[i], "set(" + i + ", " + greatest[i] + ")");
            x.due(greatest[i], "told(" + (10 + i) + ")", "set(" + i + ", " + first[i] + ")");
        }
        for (int i = 0; i < 9; i++) {
            x.due(first[i], "told(" + (10 + i) + ")");
        }
    }

    private static void setRefused() {
        Run x = run("which it was. OUTSIDE.");
        x.due(-2, "set(-1, 1)", "set(9, 1)", "set(MIN, 1)", "set(MAX, 1)", "set(-1, -1)", "set(9, 1001)");
    }

    private static void list() {
        Run x = run("LIST of an ORDER of a DAY: how many (i = -1), the i-th; NONE. UNKNOWN; OUTSIDE.");
        x.due(-1, "list(0, 0, -1)").by("page(0, 5)", "piece(0, 0, 0, 0, 0)", "piece(0, 0, 0, 0, 0)").order("!1", false);
        x.due(2, "list(0, 5, -1)").due(0, "list(0, 5, 0)").due(1, "list(0, 5, 1)");
        x.due(-6, "list(0, 5, 2)", "list(0, 5, -2)", "list(0, 5, MIN)", "list(0, 5, MAX)", "list(0, 4, 0)");
        x.due(-2, "list(0, -1, -1)", "list(0, 100, -1)", "list(0, -1, 0)", "list(0, 100, 9)");
        x.due(-1, "list(1, 5, -1)", "list(-1, 5, -1)", "list(1, 100, -1)", "list(-1, -1, 0)", "list(MIN, 5, 0)",
                "list(MAX, 5, 0)");
    }
}
