/** The boundary cases of section 5 and of promises 21 and 22, each sentence of the document by itself. */
public final class ServedEdgesTest {
    private static final Checks CHECKS = new Checks();

    public static void main(String[] args) {
        pageOrOtherSide();
        onItsList();
        byOrders();
        nineAtMost();
        tenthIsNotServed();
        sheets();
        eachPairFromOneSheet();
        noTwoThatClash();
        onePageAfterAnother();
        bothSides();
        oneForTwoOrders();
        mostPairs();
        firstOfSeveral();
        firstOfSeveralOnSeveralSheets();
        asked();
        served();
        nobodyAsks();
        CHECKS.end();
    }

    private static Run run(String sentence) {
        return new Run(CHECKS, sentence);
    }

    private static void pageOrOtherSide() {
        Run x = run("pairs of an ORDER and a PIECE of that PAGE, or of its other SIDE");
        x.by(4, "page(0, 0)");
        x.by("piece(0, 0, 0, 0, 0)", "piece(1, 0, 0, 0, 0)", "piece(2, 0, 0, 0, 0)").order("!1", false);
        x.due(1, "asked(0, -1)", "asked(1, -1)", "asked(2, -1)", "asked(1, 0)").due(0, "asked(3, -1)")
                .by("sides(1, 3)");
        x.due(1, "asked(0, -1)", "asked(1, -1)", "asked(3, -1)", "asked(3, 0)").due(0, "asked(0, 0)");
        x.by("sides(0, 2)").due(2, "asked(0, -1)", "asked(2, -1)", "asked(2, 1)").due(0, "asked(2, 0)")
                .due(1, "asked(1, -1)");
    }

    private static void onItsList() {
        Run x = run("on its LIST of the PAGE's DAY");
        x.by("page(0, 5)", "page(0, 6)", "write(0, 0, 1)", "write(1, 0, 1)");
        x.by("piece(0, 0, 0, 0, 0)", "piece(0, 0, 0, 0, 0)", "piece(1, 0, 0, 0, 0)");
        x.say("1").by("order(0, 1, 0, 99, 1, false)").order("1", true).order("2", false);
        x.say("1").by("order(0, 1, 6, 6, 20, false)").say("1").by("order(0, 2, 0, 99, 20, false)");
        x.due(2, "asked(0, -1)").due(0, "asked(0, 0)").due(100, "asked(0, 1)").due(-6, "asked(0, 2)");
        x.due(2, "asked(1, -1)").due(2, "asked(1, 0)").due(302, "asked(1, 1)").due(-6, "asked(1, 2)");
    }

    private static void byOrders() {
        Run x = run("by ORDERS, then as in LISTS");
        x.by("page(0, 0)", "page(0, 0)", "sides(0, 1)", "write(0, 0, 1)");
        x.by("piece(1, 0, 0, 0, 0)", "piece(0, 0, 0, 0, 0)", "piece(1, 0, 0, 0, 0)");
        x.order("1", false).order("!1", false).order("1", false).order("!2", false);
        int[] due = {1, 100, 102, 201, 300, 301, 302};
        x.due(7, "asked(0, -1)", "asked(1, -1)");
        for (int i = 0; i < due.length; i++) {
            x.due(due[i], "asked(0, " + i + ")", "asked(1, " + i + ")");
        }
        x.due(-6, "asked(0, 7)", "asked(1, 7)");
    }

    private static void nineAtMost() {
        Run x = run("9 at most are looked at, the first ones.");
        x.by("page(0, 0)").by(8, "piece(0, 0, 0, 0, 0)").order("!1", false);
        x.due(8, "asked(0, -1)").due(7, "asked(0, 7)").due(-6, "asked(0, 8)");
        x.by("piece(0, 0, 0, 0, 0)").due(9, "asked(0, -1)").due(8, "asked(0, 8)").due(-6, "asked(0, 9)");
        x.by("piece(0, 0, 0, 0, 0)").due(9, "asked(0, -1)").due(8, "asked(0, 8)").due(-6, "asked(0, 9)");
        x.order("!1", false).due(9, "asked(0, -1)").due(8, "asked(0, 8)").due(-6, "asked(0, 9)", "asked(0, 19)");
        x.by(14, "piece(0, 0, 0, 0, 0)").due(9, "asked(0, -1)").due(0, "asked(0, 0)").due(8, "asked(0, 8)");
    }

    private static void tenthIsNotServed() {
        Run x = run("9 at most are looked at");
        x.by("page(0, 0)");
        for (int i = 0; i < 10; i++) {
            x.by("piece(0, 0, 0, " + i + ", " + i + ")");
            if (i == 7) {
                x.order("!1", false).due(8, "served(0, 1, 0)").due(255, "served(0, 1, 1)");
            }
            if (i == 8) {
                x.due(9, "served(0, 1, 0)").due(511, "served(0, 1, 1)");
            }
        }
        x.due(9, "served(0, 1, 0)", "served(0, 4, 0)").due(511, "served(0, 1, 1)", "served(0, 4, 1)");
    }

    private static void sheets() {
        Run x = run("SERVED from n sheets (1 to 4)");
        x.by("page(0, 0)").by(5, "piece(0, 0, 0, 0, 0)").order("!1", false);
        x.due(-2, "served(0, 0, 0)", "served(0, 5, 0)", "served(0, -1, 1)", "served(0, MIN, 0)", "served(0, MAX, 0)");
        for (int n = 1; n <= 4; n++) {
            x.due(n, "served(0, " + n + ", 0)").due((1 << n) - 1, "served(0, " + n + ", 1)");
        }
    }

    private static void eachPairFromOneSheet() {
        Run x = run("each pair from one sheet");
        x.by("page(0, 0)", "piece(0, 0, 0, 0, 4)", "piece(0, 0, 0, 5, 9)", "piece(0, 0, 5, 0, 9)").order("!1", false);
        x.due(2, "served(0, 1, 0)").due(3, "served(0, 1, 1)").due(3, "served(0, 2, 0)")
                .due(7, "served(0, 2, 1)", "served(0, 4, 1)");
    }

    private static void noTwoThatClash() {
        Run x = run("no two PIECES of one sheet that CLASH");
        x.by("page(0, 0)", "piece(0, 0, 2, 0, 4)", "piece(0, 2, 5, 4, 9)", "piece(0, 0, 1, 5, 9)",
                "piece(0, 3, 5, 0, 3)");
        x.order("!1", false);
        x.due(3, "served(0, 1, 0)").due(13, "served(0, 1, 1)").due(4, "served(0, 2, 0)").due(15, "served(0, 2, 1)");
    }

    /** What was found of one page must not be left over for another. */
    private static void onePageAfterAnother() {
        Run x = run("SERVED from n sheets (1 to 4): each pair from one sheet, no two PIECES of one sheet that CLASH");
        x.by("page(0, 0)", "page(0, 0)", "piece(0, 0, 0, 0, 1)", "piece(0, 0, 0, 1, 2)", "piece(0, 0, 0, 2, 3)");
        x.by("piece(1, 0, 0, 0, 0)", "piece(1, 1, 1, 0, 0)", "piece(1, 2, 2, 0, 0)").order("!1", false);
        x.due(5, "served(0, 1, 1)").due(7, "served(1, 1, 1)").due(5, "served(0, 1, 1)").due(7, "served(1, 1, 1)");
        x.by("piece(1, 0, 2, 0, 0)").due(7, "served(1, 1, 1)").due(5, "served(0, 1, 1)").due(15, "served(1, 2, 1)");
        x.due(7, "served(0, 2, 1)").due(7, "served(1, 1, 1)");
    }

    private static void bothSides() {
        Run x = run("served from a few sheets that are printed on both sides");
        x.by("page(0, 0)", "page(0, 0)", "piece(0, 0, 0, 0, 4)", "piece(1, 0, 0, 5, 9)", "piece(1, 0, 0, 0, 4)")
                .order("!1", false);
        x.due(1, "served(0, 1, 0)").due(2, "served(1, 1, 0)").due(3, "served(1, 1, 1)").by("sides(0, 1)");
        x.due(2, "served(0, 1, 0)", "served(1, 1, 0)").due(5, "served(0, 1, 1)", "served(1, 1, 1)");
        x.due(3, "served(0, 2, 0)").due(7, "served(1, 2, 1)");
    }

    private static void oneForTwoOrders() {
        Run x = run("(one PIECE for two ORDERS needs two sheets)");
        x.by("page(0, 0)", "piece(0, 0, 0, 0, 0)").order("!1", false).due(1, "served(0, 1, 0)", "served(0, 1, 1)");
        x.order("!1", false).due(1, "served(0, 1, 0)", "served(0, 1, 1)").due(2, "served(0, 2, 0)")
                .due(3, "served(0, 2, 1)");
        x.order("!1", false).order("!1", false).order("!1", false).due(4, "served(0, 4, 0)").due(15, "served(0, 4, 1)");
        x.due(3, "served(0, 3, 0)").due(7, "served(0, 3, 1)");
    }

    private static void mostPairs() {
        Run x = run("the most pairs");
        x.by("page(0, 0)", "piece(0, 0, 5, 0, 9)");
        for (int i = 0; i < 8; i++) {
            x.by("piece(0, 0, 0, " + i + ", " + i + ")");
        }
        x.order("!1", false).due(8, "served(0, 1, 0)").due(510, "served(0, 1, 1)");
        x.due(9, "served(0, 2, 0)").due(511, "served(0, 2, 1)");
    }

    private static void firstOfSeveral() {
        Run x = run("of several such sets that which has the first pair in which two sets are not alike.");
        x.by("page(0, 0)", "piece(0, 0, 0, 0, 1)", "piece(0, 0, 0, 1, 2)", "piece(0, 0, 0, 2, 3)",
                "piece(0, 0, 0, 3, 4)");
        x.order("!1", false).due(2, "served(0, 1, 0)").due(5, "served(0, 1, 1)");
        x.by("piece(0, 0, 0, 4, 4)").due(3, "served(0, 1, 0)").due(21, "served(0, 1, 1)");
        x.by("piece(0, 0, 0, 0, 9)").due(3, "served(0, 1, 0)").due(21, "served(0, 1, 1)");
        x.due(5, "served(0, 2, 0)").due(31, "served(0, 2, 1)");
    }

    private static void firstOfSeveralOnSeveralSheets() {
        Run x = run("that which has the first pair in which two sets are not alike");
        x.by("page(0, 0)").by(9, "piece(0, 0, 0, 0, 0)").order("!1", false);
        x.due(1, "served(0, 1, 1)").due(3, "served(0, 2, 1)").due(7, "served(0, 3, 1)").due(15, "served(0, 4, 1)");
        x.due(1, "served(0, 1, 0)").due(4, "served(0, 4, 0)");
    }

    private static void asked() {
        Run x = run("ASKED of a PAGE: pairs (i = -1), the i-th: 100 times the ORDER, and the PIECE; NONE. UNKNOWN.");
        x.due(-1, "asked(0, -1)").by("page(0, 0)", "page(0, 1)").by(23, "piece(1, 0, 0, 0, 0)").by("write(0, 0, 1)");
        x.by("piece(0, 0, 0, 0, 0)");
        for (int i = 0; i < 9; i++) {
            x.say("2").by("order(0, 1023, 0, 99, 20, false)");
        }
        x.due(0, "asked(0, -1)").due(-6, "asked(0, 0)").order("1", false).due(1, "asked(0, -1)")
                .due(923, "asked(0, 0)");
        x.due(-6, "asked(0, 1)", "asked(0, -2)", "asked(0, MIN)", "asked(0, MAX)", "asked(1, 0)")
                .due(0, "asked(1, -1)");
        x.due(-1, "asked(2, -1)", "asked(-1, -1)", "asked(2, 0)", "asked(MIN, 0)", "asked(MAX, -2)");
    }

    private static void served() {
        Run x = run("SERVED from n sheets: pairs (what = 0), the set of them as bits (1). UNKNOWN; OUTSIDE.");
        x.due(-1, "served(0, 1, 0)").by("page(0, 0)", "piece(0, 0, 0, 0, 0)", "piece(0, 0, 0, 0, 0)")
                .order("!1", false);
        x.due(1, "served(0, 1, 0)", "served(0, 1, 1)").due(2, "served(0, 4, 0)").due(3, "served(0, 4, 1)");
        x.due(-2, "served(0, 1, -1)", "served(0, 1, 2)", "served(0, 0, 0)", "served(0, 5, 1)", "served(0, 0, 2)");
        x.due(-2, "served(0, 1, MIN)", "served(0, 1, MAX)");
        x.due(-1, "served(1, 1, 0)", "served(-1, 1, 0)", "served(1, 0, 0)", "served(-1, 1, 2)", "served(MIN, 1, 0)");
        x.due(-1, "served(MAX, 5, 2)");
    }

    private static void nobodyAsks() {
        Run x = run("which of those who want a piece are served");
        x.by("page(0, 0)").due(0, "asked(0, -1)", "served(0, 1, 0)", "served(0, 4, 1)");
        x.by("piece(0, 0, 0, 0, 0)").due(0, "asked(0, -1)", "served(0, 1, 0)", "served(0, 4, 1)");
        x.order("1", false).due(0, "asked(0, -1)", "served(0, 1, 0)", "served(0, 4, 1)").due(-6, "asked(0, 0)");
    }
}
