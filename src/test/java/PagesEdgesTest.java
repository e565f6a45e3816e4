/** The boundary cases of section 1 and of promises 1 to 9, each sentence of the document by itself. */
public final class PagesEdgesTest {
    private static final Checks CHECKS = new Checks();

    public static void main(String[] args) {
        newObject();
        calls512();
        days();
        words();
        pages8();
        papers();
        places60();
        linesOfTen();
        noneAtFirst();
        sidesOfOnePaperAndDay();
        behind();
        pieces24();
        linesAndColumns();
        allCounted();
        wordsInOrder();
        placeInCommon();
        placeBehind();
        page();
        write();
        writeWhileSentOrFiled();
        sides();
        sideAlready();
        ofPage();
        piece();
        about();
        word();
        clash();
        CHECKS.end();
    }

    private static Run run(String sentence) {
        return new Run(CHECKS, sentence);
    }

    private static void newObject() {
        Run x = run("No PAGES, PIECES, ORDERS; all numbers as at first.");
        x.due(0, "told(0)", "told(1)", "told(2)", "told(3)", "told(4)", "told(5)");
        x.due(20, "told(10)").due(5, "told(11)").due(10, "told(12)").due(500, "told(13)").due(100, "told(14)");
        x.due(3, "told(15)").due(2, "told(16)").due(1, "told(17)").due(0, "told(18)");
        x.due(-1, "ofPage(0, 0)", "write(0, 0, 0)", "piece(0, 0, 0, 0, 0)", "asked(0, -1)", "served(0, 1, 0)");
        x.due(-1, "about(0, 0)", "word(0, 0)", "clash(0, 0)", "changes(0, 0)", "likely(0, 0, 0)", "find(0, 0, true)");
        x.due(-1, "file(0, 0)", "send(0, 0)", "wants(0, 0, 0)", "list(0, 0, -1)");
        x.due(0, "fault()", "wipe()", "parted(0, -1)");
        for (int i = 0; i < 4; i++) {
            x.due(-6, "name(" + i + ", -1)").due(50, "reader(" + i + ", 0, 50)").due(100, "reader(" + i + ", 1, 100)");
            x.due(0, "old(" + i + ", 0, 99, -1)");
            for (int k = 0; k < 10; k++) {
                x.due(0, "slips(" + i + ", " + k + ", 0)", "counts(" + i + ", " + 11 * k + ", 0)");
            }
        }
        for (int client = 0; client < 6; client++) {
            x.due(0, "bill(" + client + ", 0)", "bill(" + client + ", 1)").due(1, "miss(" + client + ")");
        }
    }

    private static void calls512() {
        Run x = run("An object is used for at most 512 calls after it has been made");
        for (int i = 1; i <= 511; i++) {
            x.due(i, "miss(5)");
        }
        x.due(511, "told(5)");
    }

    private static void days() {
        Run x = run("DAYS are 0 to 99, WORDS 0 to 99.");
        x.due(-2, "page(0, -1)", "page(0, 100)", "page(0, MIN)", "page(0, MAX)");
        x.due(0, "page(0, 0)").due(1, "page(0, 99)");
        x.due(0, "ofPage(0, 1)").due(99, "ofPage(1, 1)");
        x.say("1").due(-2, "order(0, 1, -1, 0, 1, false)", "order(0, 1, 99, 100, 1, false)");
        x.due(-2, "order(0, 1, 100, 100, 1, false)", "order(0, 1, MIN, 0, 1, false)", "order(0, 1, 0, MAX, 1, false)");
        x.due(0, "order(0, 1, 0, 0, 1, false)").say("1").due(1, "order(0, 1, 99, 99, 1, false)");
        x.due(-2, "list(0, -1, -1)", "list(0, 100, -1)", "list(0, MIN, -1)", "list(0, MAX, -1)");
        x.due(0, "list(0, 0, -1)", "list(0, 99, -1)");
        x.due(-2, "old(0, -1, 0, -1)", "old(0, 100, 100, -1)", "old(0, 0, -1, -1)", "old(0, 0, 100, -1)");
        x.due(-2, "old(0, MIN, 0, -1)", "old(0, 0, MAX, -1)");
        x.due(0, "old(0, 0, 0, -1)", "old(0, 99, 99, -1)", "old(0, 0, 99, -1)");
    }

    private static void words() {
        Run x = run("WORDS 0 to 99");
        x.by("page(0, 0)");
        x.due(-2, "write(0, 0, 100)", "write(0, 0, -2)", "write(0, 0, MIN)", "write(0, 0, MAX)");
        x.due(-6, "write(0, 0, 0)").due(0, "write(0, 0, 99)").due(99, "ofPage(0, 100)");
        x.due(-2, "name(0, 100)", "name(0, -2)", "name(0, MIN)", "name(0, MAX)");
        x.due(-6, "name(0, 0)").due(0, "name(0, 99)").due(99, "name(0, -1)");
        x.due(-2, "counts(0, 100, 1)", "counts(0, -1, 1)", "counts(0, MIN, 1)", "counts(0, MAX, 1)");
        x.due(0, "counts(0, 0, 1)", "counts(0, 99, 2)").due(1, "counts(0, 0, 0)").due(2, "counts(0, 99, 0)");
    }

    private static void pages8() {
        Run x = run("PAGES, 8 at most, numbered from 0 on");
        for (int i = 0; i < 8; i++) {
            x.due(-1, "ofPage(" + i + ", 0)").due(i, "page(0, 0)").due(i + 1, "told(0)").due(0, "ofPage(" + i + ", 0)");
        }
        x.due(-4, "page(0, 0)", "page(9, 99)").due(8, "told(0)").due(-1, "ofPage(8, 0)", "write(8, 0, 0)");
    }

    private static void papers() {
        Run x = run("of a PAPER (0 to 9), of a DAY");
        x.due(-2, "page(-1, 0)", "page(10, 0)", "page(MIN, 0)", "page(MAX, 0)").due(0, "told(0)");
        x.due(0, "page(0, 0)").due(1, "page(9, 0)").due(0, "ofPage(0, 0)").due(9, "ofPage(1, 0)");
    }

    private static void places60() {
        Run x = run("each has 60 PLACES");
        x.by("page(0, 0)");
        x.due(-2, "write(0, -1, 0)", "write(0, 60, 0)", "write(0, MIN, 0)", "write(0, MAX, 0)");
        x.due(-2, "ofPage(0, 99)", "ofPage(0, 160)");
        x.due(-6, "write(0, 0, 1)", "write(0, 59, 2)").due(1, "ofPage(0, 100)").due(2, "ofPage(0, 159)");
    }

    private static void linesOfTen() {
        Run x = run("6 LINES of 10");
        x.by("page(0, 0)");
        x.due(-2, "piece(0, 0, 6, 0, 0)", "piece(0, 6, 6, 0, 0)", "piece(0, 0, 0, 0, 10)", "piece(0, 0, 0, 10, 10)");
        x.words(0, 9, 1, 2).words(0, 49, 3, 4).words(0, 59, 5);
        x.by("piece(0, 0, 0, 9, 9)", "piece(0, 1, 1, 0, 0)", "piece(0, 4, 4, 9, 9)", "piece(0, 5, 5, 0, 0)",
                "piece(0, 5, 5, 9, 9)");
        for (int i = 0; i < 5; i++) {
            x.due(1, "about(" + i + ", 1)").due(i + 1, "word(" + i + ", 0)");
        }
    }

    private static void noneAtFirst() {
        Run x = run("in each a WORD or none (none at first)");
        x.by("page(0, 0)", "piece(0, 0, 5, 0, 9)").due(0, "about(0, 1)");
        for (int place = 0; place < 60; place++) {
            x.due(-6, "ofPage(0, " + (100 + place) + ")");
        }
        x.by("write(0, 0, 0)").due(0, "ofPage(0, 100)").due(1, "about(0, 1)");
        x.by("write(0, 0, -1)").due(-6, "ofPage(0, 100)").due(0, "about(0, 1)");
    }

    private static void sidesOfOnePaperAndDay() {
        Run x = run("Two PAGES of one PAPER and DAY may be the two SIDES of a sheet");
        x.by("page(1, 1)", "page(1, 2)", "page(2, 1)", "page(2, 2)", "page(1, 1)");
        x.due(-3, "sides(0, 1)", "sides(0, 2)", "sides(0, 3)", "sides(1, 0)", "sides(1, 4)");
        x.due(-6, "ofPage(0, 2)", "ofPage(4, 2)").due(1, "sides(0, 4)").due(4, "ofPage(0, 2)").due(0, "ofPage(4, 2)");
    }

    private static void behind() {
        Run x = run("BEHIND a PLACE is that of the other SIDE in the same LINE at 9 less its column");
        x.by("page(0, 0)", "page(0, 0)", "sides(0, 1)");
        x.by("piece(0, 0, 0, 0, 0)", "piece(0, 5, 5, 4, 4)", "piece(0, 0, 0, 9, 9)");
        for (int column = 0; column < 10; column++) {
            x.by("piece(1, 0, 0, " + column + ", " + column + ")");
        }
        x.by("piece(1, 5, 5, 4, 4)", "piece(1, 5, 5, 5, 5)", "piece(1, 5, 5, 6, 6)", "piece(1, 4, 4, 5, 5)",
                "piece(1, 1, 1, 9, 9)");
        for (int column = 0; column < 10; column++) {
            x.due(column == 9 ? 1 : 0, "clash(0, " + (3 + column) + ")", "clash(" + (3 + column) + ", 0)");
            x.due(column == 0 ? 1 : 0, "clash(2, " + (3 + column) + ")");
        }
        x.due(0, "clash(1, 13)").due(1, "clash(1, 14)").due(0, "clash(1, 15)", "clash(1, 16)", "clash(0, 17)");
    }

    private static void pieces24() {
        Run x = run("PIECES, 24 at most, numbered from 0 on");
        x.by("page(0, 0)");
        for (int i = 0; i < 24; i++) {
            x.due(-1, "about(" + i + ", 0)").due(i, "piece(0, 0, 0, 0, 0)").due(i + 1, "told(1)");
            x.due(0, "about(" + i + ", 0)");
        }
        x.due(-4, "piece(0, 0, 0, 0, 0)", "piece(0, 5, 5, 9, 9)").due(24, "told(1)", "ofPage(0, 3)");
        x.due(-1, "about(24, 0)", "word(24, 0)", "clash(24, 0)", "clash(0, 24)", "file(24, 0)", "find(0, 24, true)");
    }

    private static void linesAndColumns() {
        Run x = run("LINES top to bottom, columns left to right of a PAGE, all counted.");
        x.by("page(0, 0)");
        for (int place = 0; place < 60; place++) {
            x.by("write(0, " + place + ", " + place + ")");
        }
        x.by("piece(0, 0, 5, 0, 9)", "piece(0, 2, 2, 3, 3)", "piece(0, 1, 2, 8, 9)", "piece(0, 4, 5, 0, 1)");
        x.due(60, "about(0, 1)").due(0, "word(0, 0)").due(59, "word(0, 59)").due(-6, "word(0, 60)");
        x.due(1, "about(1, 1)").due(23, "word(1, 0)").due(-6, "word(1, 1)");
        x.due(4, "about(2, 1)", "about(3, 1)");
        x.due(18, "word(2, 0)").due(19, "word(2, 1)").due(28, "word(2, 2)").due(29, "word(2, 3)").due(-6, "word(2, 4)");
        x.due(40, "word(3, 0)").due(41, "word(3, 1)").due(50, "word(3, 2)").due(51, "word(3, 3)");
    }

    private static void allCounted() {
        Run x = run("all counted");
        x.by("page(0, 0)", "piece(0, 2, 3, 4, 6)").fill(0, 0, 60, 9);
        x.due(6, "about(0, 1)");
        int left = 6;
        for (int line = 1; line <= 4; line++) {
            for (int column = 3; column <= 7; column++) {
                x.by("write(0, " + (10 * line + column) + ", -1)");
                boolean inside = line >= 2 && line <= 3 && column >= 4 && column <= 6;
                left -= inside ? 1 : 0;
                x.due(left, "about(0, 1)");
            }
        }
    }

    private static void wordsInOrder() {
        Run x = run("Its WORDS: those in its PLACES, LINE by LINE, from left to right.");
        x.by("page(0, 0)", "piece(0, 0, 1, 1, 8)", "piece(0, 3, 3, 0, 9)");
        x.words(0, 0, 90).words(0, 8, 1, 91, 92, 2).words(0, 18, 3, 93).words(0, 1, 4);
        x.due(4, "about(0, 1)").due(4, "word(0, 0)").due(1, "word(0, 1)").due(2, "word(0, 2)").due(3, "word(0, 3)");
        x.due(-6, "word(0, 4)", "word(0, -1)").due(0, "about(1, 1)").due(-6, "word(1, 0)");
    }

    private static void placeInCommon() {
        Run x = run("Two PIECES CLASH, if they have a PLACE in common");
        x.by("page(0, 0)", "page(0, 0)", "piece(0, 2, 3, 4, 6)");
        String[] near = {"1, 1, 0, 9", "4, 5, 0, 9", "0, 5, 0, 3", "0, 5, 7, 9", "0, 1, 0, 3", "4, 4, 7, 7"};
        String[] on = {"1, 2, 3, 4", "3, 4, 6, 7", "0, 2, 6, 9", "3, 5, 0, 4", "2, 3, 4, 6", "3, 3, 5, 5",
                "0, 5, 0, 9"};
        for (String place : near) {
            x.by("piece(0, " + place + ")");
        }
        for (String place : on) {
            x.by("piece(0, " + place + ")");
        }
        x.by("piece(1, 0, 5, 0, 9)");
        for (int i = 1; i <= near.length + on.length; i++) {
            x.due(i > near.length ? 1 : 0, "clash(0, " + i + ")", "clash(" + i + ", 0)");
        }
        x.due(0, "clash(0, 14)", "clash(14, 0)");
    }

    private static void placeBehind() {
        Run x = run("or one has a PLACE that is BEHIND one of the other.");
        x.by("page(0, 0)", "page(0, 0)", "page(0, 0)", "piece(0, 2, 3, 1, 3)");
        String[] near = {"1, 1, 0, 9", "4, 4, 0, 9", "0, 5, 0, 5", "0, 5, 9, 9", "2, 3, 1, 3"};
        String[] on = {"1, 2, 5, 6", "3, 4, 8, 9", "2, 2, 7, 7", "0, 5, 0, 9"};
        for (String place : near) {
            x.by("piece(1, " + place + ")");
        }
        for (String place : on) {
            x.by("piece(1, " + place + ")");
        }
        x.by("piece(2, 0, 5, 0, 9)").due(0, "clash(0, 9)");
        x.by("sides(1, 0)");
        for (int i = 1; i <= near.length + on.length; i++) {
            x.due(i > near.length ? 1 : 0, "clash(0, " + i + ")", "clash(" + i + ", 0)");
        }
        x.due(0, "clash(0, 10)", "clash(10, 9)");
    }

    private static void page() {
        Run x = run("A PAGE: its number. OUTSIDE; FULL.");
        x.due(-2, "page(10, 0)", "page(0, 100)", "page(10, 100)").due(0, "page(9, 99)").by(7, "page(0, 0)");
        x.due(-4, "page(0, 0)").due(-2, "page(10, 0)", "page(-1, 0)", "page(0, 100)", "page(0, -1)");
    }

    private static void write() {
        Run x = run("A WORD at a PLACE (-1: none): which it was (NONE).");
        x.by("page(0, 0)", "page(0, 0)");
        x.due(-6, "write(0, 59, -1)", "write(0, 59, 99)").due(99, "write(0, 59, 0)").due(0, "write(0, 59, 0)");
        x.due(0, "write(0, 59, -1)").due(-6, "write(0, 59, -1)", "write(1, 59, 5)", "ofPage(0, 159)");
        x.due(-1, "write(2, 59, 0)", "write(-1, 59, 0)", "write(2, 60, 0)", "write(MIN, 0, 0)", "write(MAX, 0, 100)");
        x.due(5, "ofPage(1, 159)");
    }

    private static void writeWhileSentOrFiled() {
        Run x = run("STATE: a PIECE of the PAGE is SENT or FILED.");
        x.by("page(0, 0)", "page(0, 0)", "sides(0, 1)", "write(0, 0, 1)");
        x.by("piece(0, 0, 0, 0, 0)", "piece(0, 5, 5, 9, 9)", "piece(1, 0, 5, 0, 9)").order("1", false);
        x.due(-6, "write(0, 59, 7)").by("file(1, 1)").due(-3, "write(0, 59, 8)", "write(0, 20, 8)", "write(0, 20, -1)");
        x.due(-2, "write(0, 60, 8)", "write(0, 59, 100)", "write(0, -1, 8)", "write(0, 59, -2)");
        x.due(-1, "write(2, 59, 8)").due(7, "ofPage(0, 159)").due(-6, "write(1, 0, 8)");
        x.by("file(1, 0)").due(7, "write(0, 59, 8)");
        x.by("file(1, 8)").due(-3, "write(0, 59, 9)").by("file(1, 0)").due(8, "write(0, 59, 9)");
        x.by("send(0, 0)").due(-3, "write(0, 59, 8)", "write(0, 0, 1)").due(9, "ofPage(0, 159)")
                .due(8, "write(1, 0, 9)");
    }

    private static void sides() {
        Run x = run("UNKNOWN: also both are one; STATE: unlike PAPERS or DAYS; NO: one is a SIDE already.");
        x.by("page(1, 1)", "page(1, 1)", "page(1, 2)");
        x.due(-1, "sides(0, 0)", "sides(2, 2)", "sides(0, 3)", "sides(3, 0)", "sides(-1, 0)", "sides(0, -1)",
                "sides(3, 3)");
        x.due(-1, "sides(MIN, 0)", "sides(0, MAX)", "sides(-1, -1)");
        x.due(-3, "sides(0, 2)", "sides(2, 1)").due(1, "sides(0, 1)");
        x.due(-1, "sides(0, 0)", "sides(1, 3)").due(-3, "sides(0, 2)", "sides(2, 1)")
                .due(-5, "sides(0, 1)", "sides(1, 0)");
    }

    private static void sideAlready() {
        Run x = run("NO: one is a SIDE already.");
        x.by(4, "page(1, 1)").due(1, "sides(2, 1)");
        x.due(-5, "sides(1, 2)", "sides(2, 1)", "sides(0, 1)", "sides(1, 0)", "sides(0, 2)", "sides(2, 0)",
                "sides(3, 2)");
        x.due(-6, "ofPage(0, 2)", "ofPage(3, 2)").due(1, "ofPage(2, 2)").due(2, "ofPage(1, 2)").due(1, "sides(3, 0)");
        x.due(0, "ofPage(3, 2)").due(3, "ofPage(0, 2)").due(-5, "sides(0, 1)");
    }

    private static void ofPage() {
        Run x = run("Of a PAGE: 0 PAPER, 1 DAY, 2 the other SIDE (NONE), 3 PIECES of it, 100 and a PLACE: the WORD there");
        x.by("page(9, 99)", "page(9, 99)", "page(8, 98)", "write(0, 0, 11)", "write(0, 59, 22)");
        x.by("piece(0, 0, 0, 0, 0)", "piece(0, 0, 0, 0, 0)", "piece(1, 0, 0, 0, 0)");
        x.due(9, "ofPage(0, 0)").due(99, "ofPage(0, 1)").due(-6, "ofPage(0, 2)").due(2, "ofPage(0, 3)");
        x.due(1, "ofPage(1, 3)").due(0, "ofPage(2, 3)").due(11, "ofPage(0, 100)").due(22, "ofPage(0, 159)");
        x.due(-6, "ofPage(0, 101)", "ofPage(0, 158)", "ofPage(2, 100)");
        x.due(-2, "ofPage(0, -1)", "ofPage(0, 4)", "ofPage(0, 99)", "ofPage(0, 160)", "ofPage(0, MIN)",
                "ofPage(0, MAX)");
        x.due(-1, "ofPage(3, 0)", "ofPage(-1, 0)", "ofPage(3, 4)", "ofPage(MIN, 100)", "ofPage(MAX, 160)");
        x.by("sides(0, 1)").due(1, "ofPage(0, 2)").due(0, "ofPage(1, 2)").due(-6, "ofPage(2, 2)");
    }

    private static void piece() {
        Run x = run("UNKNOWN; OUTSIDE: top not above bottom, left not above right; FULL.");
        x.by("page(0, 0)");
        x.due(-2, "piece(0, 1, 0, 0, 0)", "piece(0, 5, 4, 0, 9)", "piece(0, 0, 0, 1, 0)", "piece(0, 0, 5, 9, 8)");
        x.due(-2, "piece(0, -1, 0, 0, 0)", "piece(0, 0, 6, 0, 0)", "piece(0, 0, 0, -1, 0)", "piece(0, 0, 0, 0, 10)");
        x.due(-2, "piece(0, MIN, 0, 0, 0)", "piece(0, 0, MAX, 0, 0)", "piece(0, 0, 0, MIN, 0)",
                "piece(0, 0, 0, 0, MAX)");
        x.due(-2, "piece(0, 0, -1, 0, 0)", "piece(0, 6, 5, 0, 0)", "piece(0, 0, 0, 0, -1)", "piece(0, 0, 0, 10, 9)");
        x.due(-1, "piece(1, 0, 0, 0, 0)", "piece(-1, 0, 0, 0, 0)", "piece(1, 1, 0, 0, 0)", "piece(MAX, 0, 0, 0, 10)");
        x.due(0, "told(1)").due(0, "piece(0, 0, 0, 0, 0)").due(1, "piece(0, 5, 5, 9, 9)")
                .due(2, "piece(0, 4, 5, 8, 9)");
        x.due(3, "piece(0, 0, 5, 0, 9)").by(20, "piece(0, 0, 0, 0, 0)");
        x.due(-4, "piece(0, 0, 0, 0, 0)").due(-2, "piece(0, 1, 0, 0, 0)", "piece(0, 0, 6, 0, 0)");
        x.due(-1, "piece(1, 0, 0, 0, 0)", "piece(1, 1, 0, 0, 0)");
    }

    private static void about() {
        Run x = run("4 the first one of its FAMILY, 5 how many are in that. UNKNOWN; OUTSIDE.");
        x.by("page(0, 7)", "page(0, 7)", "page(0, 6)", "write(1, 0, 3)", "write(2, 0, 3)");
        x.by("piece(1, 0, 0, 0, 9)", "piece(2, 0, 0, 0, 9)", "piece(1, 5, 5, 0, 9)").order("3", false)
                .order("3", false);
        x.due(1, "about(0, 0)").due(1, "about(0, 1)").due(0, "about(0, 2)", "about(0, 3)");
        x.due(1, "about(0, 4)").due(2, "about(0, 5)");
        x.due(0, "about(2, 1)").due(2, "about(2, 4)").due(1, "about(2, 5)");
        x.by("file(0, 15)", "send(0, 1)").due(15, "about(0, 2)").due(2, "about(0, 3)").by("send(0, 0)")
                .due(3, "about(0, 3)");
        x.due(-2, "about(0, -1)", "about(0, 6)", "about(0, MIN)", "about(0, MAX)");
        x.due(-1, "about(3, 0)", "about(-1, 0)", "about(3, 6)", "about(-1, -1)", "about(MIN, 4)", "about(MAX, 5)");
    }

    private static void word() {
        Run x = run("The i-th of its WORDS; NONE. UNKNOWN.");
        x.by("page(0, 0)", "write(0, 3, 0)", "write(0, 5, 99)", "piece(0, 0, 0, 0, 9)", "piece(0, 1, 1, 0, 9)");
        x.due(0, "word(0, 0)").due(99, "word(0, 1)");
        x.due(-6, "word(0, 2)", "word(0, -1)", "word(0, MIN)", "word(0, MAX)", "word(1, 0)", "word(1, -1)");
        x.due(-1, "word(2, 0)", "word(-1, 0)", "word(2, -1)", "word(MIN, 0)", "word(MAX, 0)");
    }

    private static void clash() {
        Run x = run("Whether two PIECES CLASH (1, 0; one with itself: 1). UNKNOWN.");
        x.by("page(0, 0)", "piece(0, 0, 0, 0, 0)", "piece(0, 5, 5, 9, 9)", "piece(0, 5, 5, 9, 9)");
        x.due(1, "clash(0, 0)", "clash(1, 1)", "clash(1, 2)").due(0, "clash(0, 1)", "clash(1, 0)");
        x.due(-1, "clash(0, 3)", "clash(3, 0)", "clash(-1, 0)", "clash(0, -1)", "clash(3, 3)", "clash(-1, -1)");
        x.due(-1, "clash(MIN, 0)", "clash(0, MAX)");
    }
}
