/** The boundary cases of section 4 and of promises 18 to 20, each sentence of the document by itself. */
public final class NamesEdgesTest {
    private static final Checks CHECKS = new Checks();

    public static void main(String[] args) {
        names();
        wordAtFirst();
        whatWordsCount();
        reach();
        reachAtFirst();
        farthestReach();
        reachNone();
        reachOverGaps();
        leftOut();
        firstOfSeveral();
        greatestIsNegative();
        sure();
        sureAtFirst();
        surest();
        notHis();
        either();
        notThere();
        name();
        counts();
        likely();
        CHECKS.end();
    }

    private static Run run(String sentence) {
        return new Run(CHECKS, sentence);
    }

    private static Run likely(Run x, int verdict, int sum, int place) {
        return x.due(verdict, "likely(0, 0, 0)").due(sum, "likely(0, 0, 1)").due(place, "likely(0, 0, 2)");
    }

    private static void names() {
        Run x = run("NAMES 0 to 3");
        x.by("page(0, 0)", "piece(0, 0, 0, 0, 0)");
        x.due(-1, "name(-1, 0)", "name(4, 0)", "counts(-1, 0, 0)", "counts(4, 0, 0)", "likely(-1, 0, 0)",
                "likely(4, 0, 0)");
        x.due(-1, "old(-1, 0, 0, -1)", "old(4, 0, 0, -1)").due(-2, "file(0, 16)", "file(0, -1)");
        x.due(-6, "name(0, 1)", "name(3, 2)")
                .due(0, "counts(0, 0, 3)", "counts(3, 0, 4)", "likely(0, 0, 0)", "likely(3, 0, 0)");
        x.due(0, "old(0, 0, 0, -1)", "old(3, 0, 0, -1)", "file(0, 9)").due(1, "old(0, 0, 0, -1)", "old(3, 0, 0, -1)");
        x.due(1, "name(0, -1)").due(2, "name(3, -1)").due(3, "counts(0, 0, 0)").due(4, "counts(3, 0, 0)");
    }

    private static void wordAtFirst() {
        Run x = run("a WORD (none at first: -1)");
        x.by("page(0, 0)", "piece(0, 0, 0, 0, 9)", "write(0, 0, 0)", "counts(0, 0, 100)");
        likely(x, 0, 0, -6).due(-6, "name(0, -1)", "name(0, 0)");
        likely(x, 3, 0, 0).due(0, "name(0, -1)");
        likely(x, 0, 0, -6).due(-6, "name(0, -1)");
    }

    private static void whatWordsCount() {
        Run x = run("what other WORDS count for it (-100 to 100; 0 at first)");
        x.due(-2, "counts(0, 5, -101)", "counts(0, 5, 101)", "counts(0, 5, MIN)", "counts(0, 5, MAX)");
        x.due(0, "counts(0, 5, -100)").due(-100, "counts(0, 5, 100)").due(100, "counts(0, 5, 0)");
        for (int word = 0; word < 100; word++) {
            x.due(0, "counts(2, " + word + ", " + (100 - 2 * word) + ")");
        }
        for (int word = 0; word < 100; word++) {
            x.due(100 - 2 * word, "counts(2, " + word + ", 0)").due(0, "counts(3, " + word + ", 0)");
        }
    }

    private static void reach() {
        Run x = run("that are REACH (0 to 20; 5 at first) or fewer WORDS away");
        x.due(-2, "set(1, -1)", "set(1, 21)").by("page(0, 0)", "piece(0, 0, 0, 0, 9)", "name(0, 9)");
        x.words(0, 0, 1, 2, 3, 9, 4, 5, 6)
                .by("counts(0, 1, 1)", "counts(0, 2, 2)", "counts(0, 3, 4)", "counts(0, 4, 8)");
        x.by("counts(0, 5, 16)", "counts(0, 6, 32)", "set(1, 0)");
        likely(x, 3, 0, 3).by("set(1, 1)");
        likely(x, 1, 12, 3).by("set(1, 2)");
        likely(x, 1, 30, 3).by("set(1, 3)");
        likely(x, 1, 63, 3).by("set(1, 20)");
        likely(x, 1, 63, 3);
    }

    private static void reachAtFirst() {
        Run x = run("(0 to 20; 5 at first)");
        x.by("page(0, 0)", "piece(0, 0, 5, 0, 9)", "name(0, 9)", "counts(0, 1, 20)", "counts(0, 2, 30)")
                .fill(0, 0, 20, 3);
        x.by("write(0, 10, 9)", "write(0, 4, 1)", "write(0, 16, 2)");
        likely(x, 3, 0, 10).by("write(0, 5, 1)");
        likely(x, 1, 20, 10).by("write(0, 15, 2)");
        likely(x, 1, 50, 10);
    }

    private static void farthestReach() {
        Run x = run("REACH (0 to 20; 5 at first)");
        x.by("page(0, 0)", "piece(0, 0, 5, 0, 9)", "name(0, 9)", "counts(0, 1, 50)", "counts(0, 2, 60)")
                .fill(0, 0, 60, 3);
        x.by("write(0, 30, 9)", "write(0, 9, 1)", "write(0, 51, 2)", "set(1, 20)");
        likely(x, 3, 0, 30).by("write(0, 10, 1)");
        likely(x, 1, 50, 30).by("write(0, 50, 2)");
        likely(x, 1, 110, 30).by("set(1, 19)");
        likely(x, 3, 0, 30).by("set(1, 20)", "counts(0, 3, 100)");
        likely(x, 1, 3910, 30).by("counts(0, 3, -100)", "counts(0, 1, -100)", "counts(0, 2, -100)");
        likely(x, 2, -4000, 30);
    }

    private static void reachNone() {
        Run x = run("for each place where the NAME's WORD stands the sum of what the WORDS count");
        x.by("page(0, 0)", "piece(0, 0, 0, 0, 9)", "name(0, 9)", "counts(0, 1, 100)", "counts(0, 9, 100)", "set(1, 0)");
        x.words(0, 0, 1, 9, 1, 9);
        likely(x, 3, 0, 1).by("set(2, 1)");
        likely(x, 3, 0, 1).by("set(1, 1)");
        likely(x, 1, 200, 1);
    }

    private static void reachOverGaps() {
        Run x = run("or fewer WORDS away");
        x.by("page(0, 0)", "piece(0, 0, 5, 0, 9)", "name(0, 9)", "counts(0, 1, 50)", "set(1, 1)");
        x.by("write(0, 0, 9)", "write(0, 59, 1)");
        likely(x, 1, 50, 0).by("write(0, 30, 2)");
        likely(x, 3, 0, 0).by("set(1, 2)");
        likely(x, 1, 50, 0);
    }

    private static void leftOut() {
        Run x = run("(it left out)");
        x.by("page(0, 0)", "piece(0, 0, 0, 0, 9)", "name(0, 9)", "counts(0, 9, 100)", "write(0, 0, 9)");
        likely(x, 3, 0, 0).by("write(0, 1, 3)", "counts(0, 3, 7)");
        likely(x, 3, 7, 0);
    }

    private static void firstOfSeveral() {
        Run x = run("the greatest sum, of several places the first.");
        x.by("page(0, 0)", "piece(0, 0, 0, 0, 9)", "name(0, 9)", "set(1, 1)").words(0, 0, 9, 1, 2, 9, 2, 1, 9);
        likely(x, 3, 0, 0).by("counts(0, 1, 5)");
        likely(x, 3, 5, 0).by("counts(0, 2, 2)");
        likely(x, 3, 5, 0).by("counts(0, 2, 3)");
        likely(x, 3, 6, 3).by("counts(0, 1, 6)");
        likely(x, 3, 6, 0).by("counts(0, 1, -1)", "counts(0, 2, -1)");
        likely(x, 3, -1, 0);
    }

    private static void greatestIsNegative() {
        Run x = run("the greatest sum");
        x.by("page(0, 0)", "piece(0, 0, 0, 0, 9)", "name(0, 9)", "set(1, 1)").words(0, 0, 9, 1).words(0, 5, 2, 9);
        x.by("counts(0, 1, -100)", "counts(0, 2, -99)", "write(0, 4, 3)");
        likely(x, 2, -99, 4).by("counts(0, 1, -98)");
        likely(x, 2, -98, 0);
    }

    private static void sure() {
        Run x = run("HIS 1: that is SURE (1 to 1000; 10 at first) or more");
        x.due(-2, "set(2, 0)", "set(2, 1001)").by("page(0, 0)", "piece(0, 0, 0, 0, 9)", "name(0, 9)").words(0, 0, 9, 1);
        x.by("set(2, 1)");
        likely(x, 3, 0, 0).by("counts(0, 1, 1)");
        likely(x, 1, 1, 0).by("set(2, 2)");
        likely(x, 3, 1, 0);
    }

    private static void sureAtFirst() {
        Run x = run("SURE (1 to 1000; 10 at first)");
        x.by("page(0, 0)", "piece(0, 0, 0, 0, 9)", "name(0, 9)").words(0, 0, 9, 1).by("counts(0, 1, 9)");
        likely(x, 3, 9, 0).by("counts(0, 1, 10)");
        likely(x, 1, 10, 0).by("counts(0, 1, -9)");
        likely(x, 3, -9, 0).by("counts(0, 1, -10)");
        likely(x, 2, -10, 0);
    }

    private static void surest() {
        Run x = run("(1 to 1000; 10 at first)");
        x.by("page(0, 0)", "piece(0, 0, 5, 0, 9)", "name(0, 9)", "set(1, 20)", "set(2, 1000)", "counts(0, 1, 100)");
        x.fill(0, 0, 9, 1).words(0, 9, 9, 2).by("counts(0, 2, 99)");
        likely(x, 3, 999, 9).by("counts(0, 2, 100)");
        likely(x, 1, 1000, 9).by("counts(0, 1, -100)", "counts(0, 2, -99)");
        likely(x, 3, -999, 9).by("counts(0, 2, -100)");
        likely(x, 2, -1000, 9);
    }

    private static void notHis() {
        Run x = run("NOT 2: it is -SURE or less");
        x.by("page(0, 0)", "piece(0, 0, 0, 0, 9)", "name(0, 9)", "set(2, 1)").words(0, 0, 9, 1).by("counts(0, 1, -1)");
        likely(x, 2, -1, 0).by("set(2, 2)");
        likely(x, 3, -1, 0).by("counts(0, 1, -2)");
        likely(x, 2, -2, 0).by("counts(0, 1, -3)");
        likely(x, 2, -3, 0);
    }

    private static void either() {
        Run x = run("EITHER 3");
        x.by("page(0, 0)", "piece(0, 0, 0, 0, 9)", "name(0, 9)", "set(2, 1)").words(0, 0, 9, 1);
        likely(x, 3, 0, 0).by("write(0, 1, -1)");
        likely(x, 3, 0, 0);
    }

    private static void notThere() {
        Run x = run("0: the WORD is not there.");
        x.by("page(0, 0)", "piece(0, 1, 1, 1, 8)", "name(0, 9)", "counts(0, 1, 100)").words(0, 10, 9, 1)
                .by("write(0, 19, 9)");
        likely(x, 0, 0, -6).by("write(0, 18, 9)");
        likely(x, 1, 100, 1).by("write(0, 18, -1)", "write(0, 11, 9)");
        likely(x, 3, 0, 0).by("write(0, 11, -1)");
        likely(x, 0, 0, -6);
    }

    private static void name() {
        Run x = run("A NAME has a WORD (-1: none): which it was (NONE). UNKNOWN; OUTSIDE.");
        x.due(-6, "name(3, -1)", "name(3, 99)").due(99, "name(3, 0)").due(0, "name(3, 0)").due(0, "name(3, -1)");
        x.due(-2, "name(3, -2)", "name(3, 100)", "name(3, MIN)", "name(3, MAX)").due(-6, "name(3, 5)", "name(2, 5)");
        x.due(-1, "name(-1, 5)", "name(4, 5)", "name(4, 100)", "name(-1, -2)", "name(MIN, 5)", "name(MAX, 5)")
                .due(5, "name(3, 5)");
    }

    private static void counts() {
        Run x = run("What a WORD counts for a NAME: what it was. UNKNOWN: the NAME; OUTSIDE.");
        x.due(0, "counts(3, 99, 100)", "counts(0, 0, -100)").due(100, "counts(3, 99, 1)").due(-100, "counts(0, 0, 2)");
        x.due(-2, "counts(3, 100, 0)", "counts(3, -1, 0)", "counts(3, 99, 101)", "counts(3, 99, -101)");
        x.due(-1, "counts(4, 0, 0)", "counts(-1, 0, 0)", "counts(4, 100, 0)", "counts(-1, 0, 101)",
                "counts(MIN, 0, 0)");
        x.due(-1, "counts(MAX, -1, -101)").due(1, "counts(3, 99, 0)").due(2, "counts(0, 0, 0)");
    }

    private static void likely() {
        Run x = run("LIKELY: 0 to 3 (what = 0), the greatest sum (1; 0), the place of the WORD among the PIECE's WORDS (2; NONE).");
        x.by("page(0, 0)", "piece(0, 0, 5, 0, 9)", "name(3, 7)", "write(0, 5, 7)", "write(0, 2, 1)");
        x.due(3, "likely(3, 0, 0)").due(0, "likely(3, 0, 1)").due(1, "likely(3, 0, 2)");
        x.due(0, "likely(0, 0, 0)", "likely(0, 0, 1)").due(-6, "likely(0, 0, 2)").fill(0, 0, 59, 1)
                .by("write(0, 59, 7)");
        x.due(59, "likely(3, 0, 2)");
        x.due(-2, "likely(3, 0, -1)", "likely(3, 0, 3)", "likely(0, 0, MIN)", "likely(0, 0, MAX)");
        x.due(-1, "likely(4, 0, 0)", "likely(-1, 0, 0)", "likely(3, 1, 0)", "likely(3, -1, 0)", "likely(4, 0, 3)",
                "likely(3, 1, -1)");
        x.due(-1, "likely(4, 1, 0)", "likely(MIN, 0, 0)", "likely(0, MAX, 0)");
    }
}
