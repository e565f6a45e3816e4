/** Promises 1 to 9: a new object, page, write, sides, ofPage, piece, about, word, clash. */
public final class PagesTest {
    private static final Checks CHECKS = new Checks();

    public static void main(String[] args) {
        newObject();
        page();
        write();
        sides();
        ofPage();
        piece();
        about();
        family();
        word();
        clash();
        CHECKS.end();
    }

    private static void newObject() {
        CHECKS.about("promise 1");
        CutBureau x = new CutBureau();
        int[] first = {20, 5, 10, 500, 100, 3, 2, 1, 0};
        for (int i = 0; i <= 5; i++) {
            CHECKS.due("told(" + i + ")", x.told(i), 0);
        }
        for (int i = 0; i < first.length; i++) {
            CHECKS.due("told(" + (10 + i) + ")", x.told(10 + i), first[i]);
        }
        CHECKS.due("ofPage(0, 0)", x.ofPage(0, 0), -1);
        CHECKS.due("about(0, 0)", x.about(0, 0), -1);
        CHECKS.due("list(0, 0, -1)", x.list(0, 0, -1), -1);
        for (int i = 0; i < 4; i++) {
            CHECKS.due("name(" + i + ", -1)", x.name(i, -1), -6);
            CHECKS.due("counts(" + i + ", 99, 0)", x.counts(i, 99, 0), 0);
            CHECKS.due("reader(" + i + ", 0, 50)", x.reader(i, 0, 50), 50);
            CHECKS.due("reader(" + i + ", 1, 100)", x.reader(i, 1, 100), 100);
            CHECKS.due("slips(" + i + ", 9, 0)", x.slips(i, 9, 0), 0);
        }
        CutBureau other = new CutBureau();
        x.page(0, 0);
        x.miss(0);
        x.set(0, 50);
        CHECKS.due("told(0) of another object", other.told(0), 0);
        CHECKS.due("told(5) of another object", other.told(5), 0);
        CHECKS.due("told(10) of another object", new CutBureau().told(10), 20);
    }

    private static void page() {
        CHECKS.about("promise 2");
        CutBureau x = new CutBureau();
        CHECKS.due("page(-1, 0)", x.page(-1, 0), -2);
        CHECKS.due("page(10, 0)", x.page(10, 0), -2);
        CHECKS.due("page(0, -1)", x.page(0, -1), -2);
        CHECKS.due("page(0, 100)", x.page(0, 100), -2);
        CHECKS.due("told(0)", x.told(0), 0);
        for (int i = 0; i < 8; i++) {
            CHECKS.due("page(9, 99)", x.page(9, 99), i);
        }
        CHECKS.due("page(9, 99) the 9th", x.page(9, 99), -4);
        CHECKS.due("page(10, 99) the 9th", x.page(10, 99), -2);
        CHECKS.due("told(0)", x.told(0), 8);
        CHECKS.due("ofPage(7, 0)", x.ofPage(7, 0), 9);
        CHECKS.due("ofPage(8, 0), of eight", x.ofPage(8, 0), -1);
    }

    private static void write() {
        CHECKS.about("promise 3");
        CutBureau x = new CutBureau();
        x.page(0, 0);
        x.page(0, 0);
        x.sides(0, 1);
        CHECKS.due("write(2, 0, 0)", x.write(2, 0, 0), -1);
        CHECKS.due("write(-1, 60, 0)", x.write(-1, 60, 0), -1);
        CHECKS.due("write(0, -1, 0)", x.write(0, -1, 0), -2);
        CHECKS.due("write(0, 60, 0)", x.write(0, 60, 0), -2);
        CHECKS.due("write(0, 0, -2)", x.write(0, 0, -2), -2);
        CHECKS.due("write(0, 0, 100)", x.write(0, 0, 100), -2);
        CHECKS.due("write(0, 59, 99)", x.write(0, 59, 99), -6);
        CHECKS.due("write(0, 59, 0)", x.write(0, 59, 0), 99);
        CHECKS.due("write(0, 59, -1)", x.write(0, 59, -1), 0);
        CHECKS.due("write(0, 59, -1)", x.write(0, 59, -1), -6);
        CHECKS.due("write(1, 0, -1)", x.write(1, 0, -1), -6);
        x.piece(0, 0, 0, 0, 0);
        x.piece(0, 1, 1, 0, 0);
        CHECKS.due("write(0, 0, 4)", x.write(0, 0, 4), -6);
        x.file(1, 8);
        CHECKS.due("write(0, 59, 4) by one filed", x.write(0, 59, 4), -3);
        CHECKS.due("write(0, 0, 4) by one filed", x.write(0, 0, 4), -3);
        CHECKS.due("write(0, 60, 4) by one filed", x.write(0, 60, 4), -2);
        CHECKS.due("write(1, 0, 4) behind one filed", x.write(1, 0, 4), -6);
        x.file(1, 0);
        CHECKS.due("write(0, 0, 5) not filed any more", x.write(0, 0, 5), 4);
        Checks.order(x, "5", false);
        x.send(0, 0);
        CHECKS.due("write(0, 0, 6) by one sent", x.write(0, 0, 6), -3);
        CHECKS.due("ofPage(0, 100)", x.ofPage(0, 100), 5);
    }

    private static void sides() {
        CHECKS.about("promise 4");
        CutBureau x = new CutBureau();
        x.page(1, 1);
        x.page(1, 1);
        x.page(2, 1);
        x.page(1, 2);
        x.page(1, 1);
        CHECKS.due("sides(0, 0)", x.sides(0, 0), -1);
        CHECKS.due("sides(0, 5)", x.sides(0, 5), -1);
        CHECKS.due("sides(-1, 0)", x.sides(-1, 0), -1);
        CHECKS.due("sides(0, 2)", x.sides(0, 2), -3);
        CHECKS.due("sides(0, 3)", x.sides(0, 3), -3);
        CHECKS.due("sides(1, 0)", x.sides(1, 0), 1);
        CHECKS.due("sides(0, 1)", x.sides(0, 1), -5);
        CHECKS.due("sides(4, 1)", x.sides(4, 1), -5);
        CHECKS.due("sides(0, 4)", x.sides(0, 4), -5);
        CHECKS.due("sides(0, 2) of a side", x.sides(0, 2), -3);
        CHECKS.due("ofPage(0, 2)", x.ofPage(0, 2), 1);
        CHECKS.due("ofPage(1, 2)", x.ofPage(1, 2), 0);
        CHECKS.due("ofPage(4, 2)", x.ofPage(4, 2), -6);
    }

    private static void ofPage() {
        CHECKS.about("promise 5");
        CutBureau x = new CutBureau();
        x.page(7, 88);
        x.page(7, 88);
        x.write(0, 0, 12);
        x.write(0, 59, 34);
        x.piece(0, 0, 5, 0, 9);
        x.piece(0, 0, 5, 0, 9);
        x.piece(1, 0, 5, 0, 9);
        CHECKS.due("ofPage(2, 0)", x.ofPage(2, 0), -1);
        CHECKS.due("ofPage(-1, 4)", x.ofPage(-1, 4), -1);
        CHECKS.due("ofPage(0, 0)", x.ofPage(0, 0), 7);
        CHECKS.due("ofPage(0, 1)", x.ofPage(0, 1), 88);
        CHECKS.due("ofPage(0, 2)", x.ofPage(0, 2), -6);
        CHECKS.due("ofPage(0, 3)", x.ofPage(0, 3), 2);
        CHECKS.due("ofPage(0, 100)", x.ofPage(0, 100), 12);
        CHECKS.due("ofPage(0, 101)", x.ofPage(0, 101), -6);
        CHECKS.due("ofPage(0, 159)", x.ofPage(0, 159), 34);
        for (int what : new int[] {-1, 4, 99, 160, Integer.MIN_VALUE, Integer.MAX_VALUE}) {
            CHECKS.due("ofPage(0, " + what + ")", x.ofPage(0, what), -2);
        }
    }

    private static void piece() {
        CHECKS.about("promise 6");
        CutBureau x = new CutBureau();
        CHECKS.due("piece(0, 0, 0, 0, 0)", x.piece(0, 0, 0, 0, 0), -1);
        x.page(0, 0);
        CHECKS.due("piece(1, 9, 0, 0, 0)", x.piece(1, 9, 0, 0, 0), -1);
        CHECKS.due("piece(0, -1, 0, 0, 0)", x.piece(0, -1, 0, 0, 0), -2);
        CHECKS.due("piece(0, 0, 6, 0, 0)", x.piece(0, 0, 6, 0, 0), -2);
        CHECKS.due("piece(0, 0, 0, -1, 0)", x.piece(0, 0, 0, -1, 0), -2);
        CHECKS.due("piece(0, 0, 0, 0, 10)", x.piece(0, 0, 0, 0, 10), -2);
        CHECKS.due("piece(0, 3, 2, 0, 0)", x.piece(0, 3, 2, 0, 0), -2);
        CHECKS.due("piece(0, 0, 0, 5, 4)", x.piece(0, 0, 0, 5, 4), -2);
        CHECKS.due("told(1)", x.told(1), 0);
        CHECKS.due("piece(0, 5, 5, 9, 9)", x.piece(0, 5, 5, 9, 9), 0);
        for (int i = 1; i < 24; i++) {
            CHECKS.due("piece(0, 0, 5, 0, 9)", x.piece(0, 0, 5, 0, 9), i);
        }
        CHECKS.due("piece(0, 0, 5, 0, 9) the 25th", x.piece(0, 0, 5, 0, 9), -4);
        CHECKS.due("piece(0, 0, 6, 0, 9) the 25th", x.piece(0, 0, 6, 0, 9), -2);
        CHECKS.due("told(1)", x.told(1), 24);
        CHECKS.due("about(23, 0)", x.about(23, 0), 0);
        CHECKS.due("about(24, 0), of 24", x.about(24, 0), -1);
    }

    private static void about() {
        CHECKS.about("promise 7");
        CutBureau x = new CutBureau();
        x.page(5, 9);
        x.page(4, 9);
        x.page(6, 8);
        Checks.write(x, 0, 10, 1, 2, 3, 4, 5);
        Checks.write(x, 1, 10, 1, 2, 3, 4, 6);
        Checks.write(x, 2, 10, 1, 2, 3, 7, 6);
        for (int page = 0; page < 3; page++) {
            x.piece(page, 1, 1, 0, 9);
        }
        x.piece(0, 0, 0, 0, 9);
        x.piece(0, 2, 2, 0, 9);
        CHECKS.due("about(5, 0)", x.about(5, 0), -1);
        CHECKS.due("about(-1, 6)", x.about(-1, 6), -1);
        CHECKS.due("about(0, 6)", x.about(0, 6), -2);
        CHECKS.due("about(0, -1)", x.about(0, -1), -2);
        CHECKS.due("about(2, 0)", x.about(2, 0), 2);
        CHECKS.due("about(0, 1)", x.about(0, 1), 5);
        CHECKS.due("about(3, 1)", x.about(3, 1), 0);
        CHECKS.due("about(0, 4): the double of a double, of an earlier day", x.about(0, 4), 2);
        CHECKS.due("about(0, 5)", x.about(0, 5), 3);
        CHECKS.due("about(2, 5)", x.about(2, 5), 3);
        CHECKS.due("about(3, 4): pieces without words are no doubles", x.about(3, 4), 3);
        CHECKS.due("about(4, 5)", x.about(4, 5), 1);
        x.set(0, 19);
        CHECKS.due("about(0, 4), alike 19", x.about(0, 4), 0);
        CHECKS.due("about(0, 5), alike 19", x.about(0, 5), 1);
        x.write(2, 13, 4);
        x.piece(1, 1, 1, 0, 9);
        CHECKS.due("about(1, 4), after a write", x.about(1, 4), 2);
        CHECKS.due("about(5, 4), of a new piece", x.about(5, 4), 2);
        CHECKS.due("about(1, 5)", x.about(1, 5), 3);
        x.set(0, 100);
        CHECKS.due("about(0, 5), alike 100", x.about(0, 5), 4);
        CHECKS.due("about(0, 2)", x.about(0, 2), 0);
        x.file(0, 5);
        CHECKS.due("about(0, 2)", x.about(0, 2), 5);
        CHECKS.due("about(0, 3)", x.about(0, 3), 0);
        Checks.order(x, "77", false);
        Checks.order(x, "1", false);
        Checks.order(x, "5", false);
        x.send(0, 0);
        x.send(0, 1);
        x.send(0, 2);
        CHECKS.due("about(0, 3)", x.about(0, 3), 6);
        CHECKS.due("about(1, 3)", x.about(1, 3), 0);
    }

    private static void family() {
        CHECKS.about("promise 7, families");
        CutBureau x = new CutBureau();
        x.page(0, 0);
        for (int line = 0; line < 6; line++) {
            x.piece(0, line, line, 0, 9);
        }
        x.set(0, 100);
        CHECKS.due("about(0, 5), all without words", x.about(0, 5), 1);
        x.write(0, 50, 1);
        CHECKS.due("about(5, 5), the others without words", x.about(5, 5), 1);
        x.write(0, 40, 2);
        CHECKS.due("about(5, 5), one with another word", x.about(5, 5), 2);
        CHECKS.due("about(5, 4)", x.about(5, 4), 4);
        x.set(0, 99);
        CHECKS.due("about(5, 4), alike 99", x.about(5, 4), 5);
        x.set(0, 0);
        x.write(0, 40, 1);
        CHECKS.due("about(5, 4), alike 0, the same word", x.about(5, 4), 4);
        x.write(0, 40, 2);
        CHECKS.due("about(5, 4), alike 0, another word", x.about(5, 4), 5);
        Checks.write(x, 0, 0, 1, 2, 3);
        Checks.write(x, 0, 10, 1, 2, 4);
        Checks.write(x, 0, 20, 1, 2);
        x.set(0, 33);
        CHECKS.due("about(0, 5), one of three, alike 33", x.about(0, 5), 1);
        x.set(0, 34);
        CHECKS.due("about(0, 5), one of three, alike 34", x.about(0, 5), 3);
        CHECKS.due("about(2, 4)", x.about(2, 4), 0);
        x.write(0, 30, 4);
        x.set(0, 66);
        CHECKS.due("about(3, 5), one word of three", x.about(3, 5), 1);
        x.set(0, 67);
        CHECKS.due("about(3, 5), one word of three, alike 67", x.about(3, 5), 6);
    }

    private static void word() {
        CHECKS.about("promise 8");
        CutBureau x = new CutBureau();
        x.page(0, 0);
        Checks.write(x, 0, 9, 1, 2, 3);
        Checks.write(x, 0, 19, 4, 5);
        x.write(0, 0, 0);
        x.piece(0, 0, 1, 0, 9);
        x.piece(0, 1, 1, 1, 9);
        int[] words = {0, 1, 2, 3, 4};
        for (int i = 0; i < words.length; i++) {
            CHECKS.due("word(0, " + i + ")", x.word(0, i), words[i]);
        }
        CHECKS.due("word(0, 5)", x.word(0, 5), -6);
        CHECKS.due("word(0, -1)", x.word(0, -1), -6);
        CHECKS.due("word(0, least)", x.word(0, Integer.MIN_VALUE), -6);
        CHECKS.due("word(0, greatest)", x.word(0, Integer.MAX_VALUE), -6);
        CHECKS.due("word(1, 0)", x.word(1, 0), 3);
        CHECKS.due("word(1, 1)", x.word(1, 1), 4);
        CHECKS.due("word(2, 0)", x.word(2, 0), -1);
        x.write(0, 9, -1);
        CHECKS.due("word(0, 1) after a write", x.word(0, 1), 2);
    }

    private static void clash() {
        CHECKS.about("promise 9");
        CutBureau x = new CutBureau();
        x.page(0, 0);
        x.page(0, 0);
        x.page(0, 0);
        x.piece(0, 1, 2, 0, 1);
        x.piece(0, 2, 3, 1, 4);
        x.piece(0, 3, 3, 0, 1);
        x.piece(0, 2, 2, 2, 2);
        x.piece(1, 2, 2, 8, 8);
        x.piece(1, 3, 3, 9, 9);
        x.piece(2, 0, 5, 0, 9);
        CHECKS.due("clash(0, 4), no sides yet", x.clash(0, 4), 0);
        x.sides(1, 0);
        CHECKS.due("clash(0, 0)", x.clash(0, 0), 1);
        CHECKS.due("clash(0, 1)", x.clash(0, 1), 1);
        CHECKS.due("clash(0, 2)", x.clash(0, 2), 0);
        CHECKS.due("clash(0, 3)", x.clash(0, 3), 0);
        CHECKS.due("clash(1, 3)", x.clash(1, 3), 1);
        CHECKS.due("clash(0, 4)", x.clash(0, 4), 1);
        CHECKS.due("clash(4, 1)", x.clash(4, 1), 1);
        CHECKS.due("clash(4, 3)", x.clash(4, 3), 0);
        CHECKS.due("clash(5, 0)", x.clash(5, 0), 0);
        CHECKS.due("clash(5, 2)", x.clash(5, 2), 1);
        CHECKS.due("clash(5, 1)", x.clash(5, 1), 0);
        CHECKS.due("clash(6, 0)", x.clash(6, 0), 0);
        CHECKS.due("clash(6, 4)", x.clash(6, 4), 0);
        CHECKS.due("clash(0, 7)", x.clash(0, 7), -1);
        CHECKS.due("clash(-1, 0)", x.clash(-1, 0), -1);
    }
}
