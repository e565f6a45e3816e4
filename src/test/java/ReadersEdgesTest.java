/** The boundary cases of section 6 and of promises 23 to 27, each sentence of the document by itself. */
public final class ReadersEdgesTest {
    private static final Checks CHECKS = new Checks();

    public static void main(String[] args) {
        readers();
        all();
        missed();
        lowestTerms();
        noneInCommon();
        everyPieceFound();
        minutesAPage();
        slipsOfPapers();
        minutesInAll();
        timeForAll();
        unread();
        unreadGreatest();
        firstByPages();
        readerBeforeNobody();
        eachToOneReader();
        find();
        misses();
        reader();
        slips();
        parted();
        partedBits();
        CHECKS.end();
    }

    private static Run run(String sentence) {
        return new Run(CHECKS, sentence);
    }

    /** Reader 0 finds the first a pieces, reader 1 b pieces, of which c are those that reader 0 found last. */
    private static Run found(Run x, int a, int b, int c) {
        for (int i = 0; i < 24; i++) {
            x.by("find(0, " + i + ", " + (i < a) + ")", "find(1, " + i + ", " + (i >= a - c && i < a - c + b) + ")");
        }
        return x;
    }

    private static Run fractions(Run x, int allUpper, int allLower, int missedUpper, int missedLower) {
        x.due(allUpper, "misses(0, 1, 0, 0)", "misses(1, 0, 0, 0)")
                .due(allLower, "misses(0, 1, 0, 1)", "misses(1, 0, 0, 1)");
        x.due(missedUpper, "misses(0, 1, 1, 0)", "misses(1, 0, 1, 0)");
        return x.due(missedLower, "misses(0, 1, 1, 1)", "misses(1, 0, 1, 1)");
    }

    private static Run parts(Run x, int pages, int sum, int... parts) {
        x.due(sum, "parted(" + pages + ", -1)");
        for (int i = 0; i < parts.length; i++) {
            x.due(parts[i], "parted(" + pages + ", " + i + ")");
        }
        return x.due(-6, "parted(" + pages + ", " + parts.length + ")");
    }

    private static void readers() {
        Run x = run("READERS 0 to 3 FIND PIECES.");
        x.by("page(0, 0)", "piece(0, 0, 0, 0, 0)");
        x.due(-1, "find(-1, 0, true)", "find(4, 0, true)", "reader(-1, 0, 1)", "reader(4, 0, 1)", "slips(-1, 0, 1)",
                "slips(4, 0, 1)");
        x.due(-1, "misses(-1, 0, 0, 0)", "misses(4, 0, 0, 0)", "misses(0, -1, 0, 0)", "misses(0, 4, 0, 0)");
        x.due(0, "find(0, 0, true)", "find(3, 0, true)").due(50, "reader(0, 0, 1)", "reader(3, 0, 2)");
        x.due(0, "slips(0, 0, 1)", "slips(3, 0, 2)").due(1, "misses(0, 3, 0, 0)", "misses(3, 0, 0, 1)");
        x.due(1, "find(0, 0, true)", "find(3, 0, true)", "reader(0, 0, 1)", "slips(0, 0, 1)")
                .due(2, "reader(3, 0, 1)", "slips(3, 0, 1)");
        x.due(0, "find(1, 0, true)", "find(2, 0, true)");
    }

    private static void all() {
        Run x = run("a, b are what each found, c both: ALL: a times b by c");
        x.by("page(0, 0)").by(24, "piece(0, 0, 0, 0, 0)");
        fractions(found(x, 12, 13, 1), 156, 1, 132, 1);
        fractions(found(x, 3, 3, 2), 9, 2, 1, 2);
        fractions(found(x, 5, 7, 5), 7, 1, 0, 1);
        fractions(found(x, 1, 1, 1), 1, 1, 0, 1);
        fractions(found(x, 12, 13, 0), 0, 1, 0, 1);
    }

    private static void missed() {
        Run x = run("MISSED: (a less c) times (b less c) by c");
        x.by("page(0, 0)").by(24, "piece(0, 0, 0, 0, 0)");
        fractions(found(x, 8, 9, 3), 24, 1, 10, 1);
        fractions(found(x, 7, 8, 3), 56, 3, 20, 3);
        fractions(found(x, 7, 3, 3), 7, 1, 0, 1);
        fractions(found(x, 2, 24, 2), 24, 1, 0, 1);
    }

    private static void lowestTerms() {
        Run x = run("both as fractions in lowest terms");
        x.by("page(0, 0)").by(24, "piece(0, 0, 0, 0, 0)");
        fractions(found(x, 5, 6, 4), 15, 2, 1, 2);
        fractions(found(x, 10, 15, 6), 25, 1, 6, 1);
        fractions(found(x, 9, 10, 6), 15, 1, 2, 1);
        fractions(found(x, 15, 21, 12), 105, 4, 9, 4);
    }

    private static void noneInCommon() {
        Run x = run("(0 by 1, if c is 0), told by part: 0 the upper, 1 the lower number.");
        x.by("page(0, 0)", "piece(0, 0, 0, 0, 0)", "piece(0, 0, 0, 0, 0)");
        fractions(x, 0, 1, 0, 1).by("find(0, 0, true)");
        fractions(x, 0, 1, 0, 1).by("find(1, 1, true)");
        fractions(x, 0, 1, 0, 1).by("find(1, 0, true)");
        fractions(x, 2, 1, 0, 1).by("find(0, 0, false)");
        fractions(x, 0, 1, 0, 1);
    }

    private static void everyPieceFound() {
        Run x = run("a, b are what each found, c both");
        x.by("page(0, 0)").by(24, "piece(0, 0, 0, 0, 0)");
        fractions(found(x, 24, 24, 24), 24, 1, 0, 1);
        fractions(found(x, 24, 1, 1), 24, 1, 0, 1);
        fractions(found(x, 23, 24, 23), 24, 1, 0, 1);
        fractions(found(x, 23, 23, 22), 529, 22, 1, 22);
    }

    private static void minutesAPage() {
        Run x = run("READER r needs for a PAGE so many minutes (1 to 100; 50 at first)");
        x.by(3, "page(0, 0)");
        x.due(-2, "reader(0, 0, 0)", "reader(0, 0, 101)", "reader(0, 0, MIN)", "reader(0, 0, MAX)");
        parts(x, 7, 0, 0, 0, 1).due(50, "reader(0, 0, 51)");
        parts(x, 7, 0, 0, 1, 1).due(51, "reader(0, 0, 100)");
        parts(x, 7, 0, 0, 1, 1).due(100, "reader(0, 0, 34)");
        parts(x, 7, 0, 0, 0, 1).due(34, "reader(0, 0, 33)");
        parts(x, 7, 0, 0, 0, 0).due(33, "reader(0, 0, 1)");
        parts(x, 7, 0, 0, 0, 0).due(1, "reader(0, 0, 1)");
        x.by("reader(0, 1, 99)", "reader(0, 0, 100)");
        parts(x, 7, 0, 1, 1, 2);
    }

    private static void slipsOfPapers() {
        Run x = run("misses so many on one of each PAPER (0 to 100; 0 at first)");
        x.by("page(9, 0)", "page(0, 0)")
                .due(-2, "slips(0, 9, -1)", "slips(0, 9, 101)", "slips(0, 9, MIN)", "slips(0, 9, MAX)");
        x.by("reader(1, 1, 0)", "reader(2, 1, 0)", "reader(3, 1, 0)");
        parts(x, 3, 0, 0, 0).due(0, "slips(0, 9, 100)");
        parts(x, 3, 100, 0, 0).due(0, "slips(0, 0, 1)");
        parts(x, 3, 101, 0, 0).due(100, "slips(0, 9, 0)").due(1, "slips(0, 0, 0)");
        parts(x, 3, 0, 0, 0);
    }

    private static void minutesInAll() {
        Run x = run("has so many minutes in all (0 to 1000; 100 at first).");
        x.by(3, "page(0, 0)");
        x.due(-2, "reader(0, 1, -1)", "reader(0, 1, 1001)", "reader(0, 1, MIN)", "reader(0, 1, MAX)");
        parts(x, 7, 0, 0, 0, 1).due(100, "reader(0, 1, 99)");
        parts(x, 7, 0, 0, 1, 1).due(99, "reader(0, 1, 49)");
        parts(x, 7, 0, 1, 1, 2).due(49, "reader(0, 1, 50)");
        parts(x, 7, 0, 0, 1, 1).due(50, "reader(0, 1, 149)");
        parts(x, 7, 0, 0, 0, 1).due(149, "reader(0, 1, 150)");
        parts(x, 7, 0, 0, 0, 0).due(150, "reader(0, 1, 1000)").due(1000, "reader(0, 1, 0)");
        parts(x, 7, 0, 1, 1, 2).by("reader(0, 0, 1)");
        parts(x, 7, 0, 1, 1, 2).due(0, "reader(0, 1, 1)");
        parts(x, 7, 0, 0, 1, 1);
    }

    private static void timeForAll() {
        Run x = run("PARTED: PAGES (bits) each to one READER");
        x.by(8, "page(0, 0)").by("reader(0, 1, 1000)", "reader(0, 0, 100)");
        parts(x, 255, 0, 0, 0, 0, 0, 0, 0, 0, 0).by("reader(0, 1, 799)");
        parts(x, 255, 0, 0, 0, 0, 0, 0, 0, 0, 1).by("reader(0, 1, 8)", "reader(0, 0, 1)");
        parts(x, 255, 0, 0, 0, 0, 0, 0, 0, 0, 0).by("reader(0, 1, 7)");
        parts(x, 255, 0, 0, 0, 0, 0, 0, 0, 0, 1).by("reader(0, 1, 0)");
        parts(x, 255, 1000, 1, 1, 2, 2, 3, 3, 4, 4);
    }

    private static void unread() {
        Run x = run("A PAGE that nobody reads is missed by UNREAD (0 to 1000; 500 at first).");
        x.due(-2, "set(3, -1)", "set(3, 1001)").by("page(0, 0)");
        x.by("reader(0, 1, 0)", "reader(1, 1, 0)", "reader(2, 1, 0)");
        parts(x, 1, 0, 3).by("slips(3, 0, 100)");
        parts(x, 1, 100, 3).by("set(3, 100)");
        parts(x, 1, 100, 3).by("set(3, 99)");
        parts(x, 1, 99, 4).by("set(3, 0)");
        parts(x, 1, 0, 4).by("slips(3, 0, 0)");
        parts(x, 1, 0, 3).by("reader(3, 1, 0)");
        parts(x, 1, 0, 4).by("set(3, 500)");
        parts(x, 1, 500, 4);
    }

    private static void unreadGreatest() {
        Run x = run("UNREAD (0 to 1000; 500 at first)");
        x.by(8, "page(9, 99)").by("reader(0, 1, 0)", "reader(1, 1, 0)", "reader(2, 1, 0)", "reader(3, 1, 0)");
        parts(x, 255, 4000, 4, 4, 4, 4, 4, 4, 4, 4).by("set(3, 1000)");
        parts(x, 255, 8000, 4, 4, 4, 4, 4, 4, 4, 4).by("set(3, 0)");
        parts(x, 255, 0, 4, 4, 4, 4, 4, 4, 4, 4);
    }

    private static void firstByPages() {
        Run x = run("The least sum, of several the first by PAGES in order");
        x.by("page(0, 0)", "page(1, 0)", "page(0, 0)");
        x.by("reader(0, 1, 50)", "reader(1, 1, 50)", "reader(2, 1, 50)", "reader(3, 1, 0)");
        parts(x, 7, 0, 0, 1, 2).by("slips(0, 0, 10)");
        parts(x, 7, 0, 1, 0, 2).by("slips(1, 0, 5)", "slips(2, 0, 5)");
        parts(x, 7, 10, 1, 0, 2).by("slips(0, 1, 5)");
        parts(x, 7, 15, 0, 1, 2).by("slips(0, 1, 4)");
        parts(x, 7, 14, 1, 0, 2);
    }

    private static void readerBeforeNobody() {
        Run x = run("(READERS 0 to 3, nobody last)");
        x.by("page(0, 0)", "page(0, 0)", "set(3, 7)")
                .by("slips(0, 0, 8)", "slips(1, 0, 8)", "slips(2, 0, 8)", "slips(3, 0, 7)");
        parts(x, 3, 14, 3, 3).by("reader(3, 1, 50)");
        parts(x, 3, 14, 3, 4).by("slips(3, 0, 8)");
        parts(x, 3, 14, 4, 4).by("set(3, 8)");
        parts(x, 3, 16, 0, 0).by("reader(0, 1, 50)");
        parts(x, 3, 16, 0, 1);
    }

    private static void eachToOneReader() {
        Run x = run("each to one READER");
        x.by("page(0, 0)", "page(1, 0)", "page(2, 0)", "page(3, 0)");
        for (int r = 0; r < 4; r++) {
            for (int paper = 0; paper < 4; paper++) {
                x.by("slips(" + r + ", " + paper + ", " + (paper == 3 - r ? 0 : 100) + ")");
            }
        }
        parts(x, 15, 0, 3, 2, 1, 0).by("set(3, 50)", "reader(1, 1, 49)");
        parts(x, 15, 50, 3, 2, 4, 0);
    }

    private static void find() {
        Run x = run("A READER FINDS a PIECE, or not: whether so (1, 0). UNKNOWN.");
        x.due(-1, "find(0, 0, true)").by("page(0, 0)").by(24, "piece(0, 0, 0, 0, 0)");
        x.due(0, "find(3, 23, false)", "find(3, 23, true)").due(1, "find(3, 23, true)", "find(3, 23, false)");
        x.due(0, "find(3, 23, false)", "find(0, 0, true)", "find(1, 0, false)", "find(0, 1, false)")
                .due(1, "find(0, 0, false)");
        x.due(-1, "find(4, 0, true)", "find(-1, 0, true)", "find(0, 24, true)", "find(0, -1, false)",
                "find(4, 24, true)");
        x.due(-1, "find(MIN, 0, true)", "find(0, MAX, true)", "find(0, MIN, true)", "find(0, 32, true)")
                .due(0, "find(0, 0, false)");
    }

    private static void misses() {
        Run x = run("ALL (what = 0), MISSED (1) by two READERS. UNKNOWN: also both are one; OUTSIDE.");
        x.by("page(0, 0)", "piece(0, 0, 0, 0, 0)", "find(2, 0, true)", "find(3, 0, true)");
        x.due(1, "misses(2, 3, 0, 0)", "misses(3, 2, 0, 1)", "misses(2, 3, 1, 1)").due(0, "misses(2, 3, 1, 0)");
        x.due(-1, "misses(2, 2, 0, 0)", "misses(0, 0, 2, 0)", "misses(4, 2, 0, 0)", "misses(2, 4, 0, 0)",
                "misses(-1, 2, 0, 0)");
        x.due(-1, "misses(2, -1, 0, 2)", "misses(MIN, 0, 0, 0)", "misses(0, MAX, 0, 0)", "misses(4, 4, 0, 0)");
        x.due(-2, "misses(2, 3, -1, 0)", "misses(2, 3, 2, 0)", "misses(2, 3, 0, -1)", "misses(2, 3, 0, 2)",
                "misses(2, 3, 2, 2)");
        x.due(-2, "misses(0, 1, MIN, 0)", "misses(0, 1, 0, MAX)", "misses(0, 1, 2, 0)", "misses(0, 1, 0, 2)");
    }

    private static void reader() {
        Run x = run("Of a READER: 0 minutes a PAGE, 1 minutes in all: which it was. UNKNOWN; OUTSIDE.");
        x.due(50, "reader(3, 0, 100)").due(100, "reader(3, 0, 1)").due(100, "reader(3, 1, 0)")
                .due(0, "reader(3, 1, 1000)");
        x.due(-2, "reader(3, 0, 0)", "reader(3, 0, 101)", "reader(3, 1, -1)", "reader(3, 1, 1001)");
        x.due(-2, "reader(3, -1, 50)", "reader(3, 2, 50)", "reader(3, MIN, 50)", "reader(3, MAX, 50)",
                "reader(3, 2, 1001)");
        x.due(-1, "reader(4, 0, 50)", "reader(-1, 1, 50)", "reader(4, 2, 50)", "reader(4, 0, 0)",
                "reader(MIN, 0, 1)", "reader(MAX, 0, 1)");
        x.due(1, "reader(3, 0, 1)").due(1000, "reader(3, 1, 1000)").due(50, "reader(2, 0, 50)")
                .due(100, "reader(2, 1, 100)");
    }

    private static void slips() {
        Run x = run("What a READER misses on a PAGE of a PAPER: what it was. UNKNOWN: the READER; OUTSIDE.");
        x.due(0, "slips(3, 9, 100)").due(100, "slips(3, 9, 0)").due(0, "slips(3, 0, 7)", "slips(0, 9, 8)");
        x.due(-2, "slips(3, -1, 0)", "slips(3, 10, 0)", "slips(3, 0, -1)", "slips(3, 0, 101)", "slips(3, MIN, 0)",
                "slips(3, MAX, 0)");
        x.due(-1, "slips(4, 0, 0)", "slips(-1, 0, 0)", "slips(4, 10, 0)", "slips(-1, 0, 101)", "slips(MIN, 0, 0)",
                "slips(MAX, 0, 0)");
        x.due(7, "slips(3, 0, 0)").due(8, "slips(0, 9, 0)").due(0, "slips(3, 9, 0)");
    }

    private static void parted() {
        Run x = run("PARTED: the sum (i = -1), the READER of PAGE i (4: nobody; NONE: it is none of them).");
        x.due(0, "parted(0, -1)").due(-6, "parted(0, 0)", "parted(0, 7)").by(3, "page(0, 0)").by("set(3, 3)");
        x.due(0, "parted(5, -1)", "parted(5, 0)", "parted(5, 2)")
                .due(-6, "parted(5, 1)", "parted(5, 3)", "parted(5, 7)");
        x.due(-6, "parted(5, -2)", "parted(5, MIN)", "parted(5, MAX)", "parted(5, 32)", "parted(5, 34)",
                "parted(0, 0)");
        x.by("reader(0, 1, 0)", "reader(1, 1, 0)", "reader(2, 1, 0)", "reader(3, 1, 0)");
        x.due(6, "parted(5, -1)").due(4, "parted(5, 0)", "parted(5, 2)").due(-6, "parted(5, 1)")
                .due(0, "parted(0, -1)");
    }

    private static void partedBits() {
        Run x = run("OUTSIDE: PAGES, bits of such as there are.");
        x.due(-2, "parted(1, -1)", "parted(-1, -1)", "parted(MIN, -1)", "parted(MAX, -1)").due(0, "parted(0, -1)");
        for (int pages = 1; pages <= 8; pages++) {
            x.by("page(0, 0)").due(0, "parted(" + ((1 << pages) - 1) + ", -1)", "parted(" + (1 << pages - 1) + ", -1)");
            x.due(-2, "parted(" + (1 << pages) + ", -1)", "parted(" + (1 << pages) + ", 0)", "parted(-1, 0)",
                    "parted(-1, -2)");
        }
        x.due(-2, "parted(256, 9)", "parted(MIN, 0)", "parted(MAX, 9)").due(-6, "parted(255, 8)")
                .due(3, "parted(255, 7)");
    }
}
