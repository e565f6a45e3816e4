/** Promises 23 to 27: find, misses, reader, slips, parted. */
public final class ReadersTest {
    private static final Checks CHECKS = new Checks();

    public static void main(String[] args) {
        find();
        misses();
        reader();
        slips();
        parted();
        partedInOrder();
        CHECKS.end();
    }

    private static CutBureau withPieces(int count) {
        CutBureau x = new CutBureau();
        x.page(0, 0);
        for (int i = 0; i < count; i++) {
            x.piece(0, 0, 0, 0, 0);
        }
        return x;
    }

    private static void find() {
        CHECKS.about("promise 23");
        CutBureau x = withPieces(24);
        CHECKS.due("find(0, 24, true)", x.find(0, 24, true), -1);
        CHECKS.due("find(0, -1, true)", x.find(0, -1, true), -1);
        CHECKS.due("find(4, 0, true)", x.find(4, 0, true), -1);
        CHECKS.due("find(-1, 0, true)", x.find(-1, 0, true), -1);
        CHECKS.due("find(3, 23, true)", x.find(3, 23, true), 0);
        CHECKS.due("find(3, 23, true)", x.find(3, 23, true), 1);
        CHECKS.due("find(3, 22, false)", x.find(3, 22, false), 0);
        CHECKS.due("find(2, 23, false)", x.find(2, 23, false), 0);
        CHECKS.due("find(3, 23, false)", x.find(3, 23, false), 1);
        CHECKS.due("find(3, 23, false)", x.find(3, 23, false), 0);
    }

    private static void misses() {
        CHECKS.about("promise 24");
        CutBureau x = withPieces(24);
        due(x, 0, 1, 0, 1, 0, 1);
        for (int i = 0; i < 10; i++) {
            x.find(0, i, true);
        }
        due(x, 0, 1, 0, 1, 0, 1);
        for (int i = 4; i < 19; i++) {
            x.find(1, i, true);
        }
        due(x, 0, 1, 25, 1, 6, 1);
        due(x, 1, 0, 25, 1, 6, 1);
        x.find(1, 4, false);
        due(x, 0, 1, 28, 1, 9, 1);
        x.find(1, 5, false);
        due(x, 0, 1, 65, 2, 27, 2);
        x.find(0, 4, false);
        x.find(0, 5, false);
        due(x, 1, 0, 26, 1, 9, 1);
        for (int i = 0; i < 24; i++) {
            x.find(2, i, true);
            x.find(3, i, i < 9);
        }
        due(x, 2, 3, 24, 1, 0, 1);
        CHECKS.due("misses(0, 0, 0, 0)", x.misses(0, 0, 0, 0), -1);
        CHECKS.due("misses(0, 4, 2, 0)", x.misses(0, 4, 2, 0), -1);
        CHECKS.due("misses(-1, 0, 0, 0)", x.misses(-1, 0, 0, 0), -1);
        CHECKS.due("misses(0, 1, 2, 0)", x.misses(0, 1, 2, 0), -2);
        CHECKS.due("misses(0, 1, -1, 0)", x.misses(0, 1, -1, 0), -2);
        CHECKS.due("misses(0, 1, 0, 2)", x.misses(0, 1, 0, 2), -2);
        CHECKS.due("misses(0, 1, 0, -1)", x.misses(0, 1, 0, -1), -2);
    }

    private static void due(CutBureau x, int a, int b, int allUpper, int allLower, int missedUpper, int missedLower) {
        String call = "misses(" + a + ", " + b + ", ";
        CHECKS.due(call + "0, 0)", x.misses(a, b, 0, 0), allUpper);
        CHECKS.due(call + "0, 1)", x.misses(a, b, 0, 1), allLower);
        CHECKS.due(call + "1, 0)", x.misses(a, b, 1, 0), missedUpper);
        CHECKS.due(call + "1, 1)", x.misses(a, b, 1, 1), missedLower);
    }

    private static void reader() {
        CHECKS.about("promise 25");
        CutBureau x = new CutBureau();
        CHECKS.due("reader(4, 9, 1)", x.reader(4, 9, 1), -1);
        CHECKS.due("reader(-1, 0, 1)", x.reader(-1, 0, 1), -1);
        CHECKS.due("reader(0, 2, 1)", x.reader(0, 2, 1), -2);
        CHECKS.due("reader(0, -1, 1)", x.reader(0, -1, 1), -2);
        CHECKS.due("reader(0, 0, 0)", x.reader(0, 0, 0), -2);
        CHECKS.due("reader(0, 0, 101)", x.reader(0, 0, 101), -2);
        CHECKS.due("reader(0, 1, -1)", x.reader(0, 1, -1), -2);
        CHECKS.due("reader(0, 1, 1001)", x.reader(0, 1, 1001), -2);
        CHECKS.due("reader(3, 0, 1)", x.reader(3, 0, 1), 50);
        CHECKS.due("reader(3, 0, 100)", x.reader(3, 0, 100), 1);
        CHECKS.due("reader(3, 1, 0)", x.reader(3, 1, 0), 100);
        CHECKS.due("reader(3, 1, 1000)", x.reader(3, 1, 1000), 0);
        CHECKS.due("reader(3, 0, 1)", x.reader(3, 0, 1), 100);
        CHECKS.due("reader(2, 0, 1)", x.reader(2, 0, 1), 50);
    }

    private static void slips() {
        CHECKS.about("promise 26");
        CutBureau x = new CutBureau();
        CHECKS.due("slips(4, 10, 0)", x.slips(4, 10, 0), -1);
        CHECKS.due("slips(-1, 0, 0)", x.slips(-1, 0, 0), -1);
        CHECKS.due("slips(0, -1, 0)", x.slips(0, -1, 0), -2);
        CHECKS.due("slips(0, 10, 0)", x.slips(0, 10, 0), -2);
        CHECKS.due("slips(0, 0, -1)", x.slips(0, 0, -1), -2);
        CHECKS.due("slips(0, 0, 101)", x.slips(0, 0, 101), -2);
        CHECKS.due("slips(3, 9, 100)", x.slips(3, 9, 100), 0);
        CHECKS.due("slips(3, 9, 0)", x.slips(3, 9, 0), 100);
        CHECKS.due("slips(3, 8, 1)", x.slips(3, 8, 1), 0);
        CHECKS.due("slips(2, 8, 1)", x.slips(2, 8, 1), 0);
    }

    private static void parted() {
        CHECKS.about("promise 27");
        CutBureau x = new CutBureau();
        CHECKS.due("parted(0, -1) without pages", x.parted(0, -1), 0);
        CHECKS.due("parted(0, 0) without pages", x.parted(0, 0), -6);
        CHECKS.due("parted(1, -1) without pages", x.parted(1, -1), -2);
        x.page(0, 0);
        x.page(1, 0);
        x.page(1, 5);
        CHECKS.due("parted(8, -1)", x.parted(8, -1), -2);
        CHECKS.due("parted(-1, -1)", x.parted(-1, -1), -2);
        CHECKS.due("parted(5, 1)", x.parted(5, 1), -6);
        CHECKS.due("parted(5, 3)", x.parted(5, 3), -6);
        CHECKS.due("parted(5, -2)", x.parted(5, -2), -6);
        CHECKS.due("parted(5, greatest)", x.parted(5, Integer.MAX_VALUE), -6);
        dueParts(x, 7, 0, 0, 0, 1);
        x.reader(0, 1, 99);
        dueParts(x, 7, 0, 0, 1, 1);
        dueParts(x, 6, 0, -6, 0, 1);
        x.slips(1, 1, 30);
        x.slips(2, 1, 30);
        x.slips(3, 1, 40);
        dueParts(x, 7, 30, 1, 0, 1);
        x.set(3, 29);
        dueParts(x, 7, 29, 1, 0, 4);
        x.set(3, 30);
        dueParts(x, 7, 30, 1, 0, 1);
        x.reader(1, 1, 49);
        dueParts(x, 7, 30, 2, 0, 2);
        for (int r = 0; r < 4; r++) {
            x.reader(r, 1, 0);
        }
        dueParts(x, 7, 90, 4, 4, 4);
        x.reader(3, 0, 100);
        x.reader(3, 1, 100);
        dueParts(x, 7, 60, 3, 4, 4);
        x.set(3, 1000);
        dueParts(x, 7, 2000, 3, 4, 4);
    }

    /** Eight pages of one paper, of which each reader has the time for two. */
    private static void partedInOrder() {
        CHECKS.about("promise 27, eight pages");
        CutBureau x = new CutBureau();
        for (int i = 0; i < 8; i++) {
            x.page(i % 2, 0);
        }
        dueParts(x, 255, 0, 0, 0, 1, 1, 2, 2, 3, 3);
        for (int r = 0; r < 4; r++) {
            x.slips(r, 0, 10 * r);
            x.slips(r, 1, 30 - 10 * r);
        }
        dueParts(x, 255, 40, 0, 2, 0, 2, 1, 3, 1, 3);
        x.set(3, 15);
        dueParts(x, 255, 40, 0, 2, 0, 2, 1, 3, 1, 3);
        x.set(3, 10);
        dueParts(x, 255, 40, 0, 2, 0, 2, 1, 3, 1, 3);
        x.set(3, 9);
        dueParts(x, 255, 36, 0, 3, 0, 3, 4, 4, 4, 4);
        x.set(3, 1000);
        x.reader(3, 1, 99);
        dueParts(x, 255, 1040, 0, 2, 0, 2, 1, 3, 1, 4);
    }

    private static void dueParts(CutBureau x, int pages, int sum, int... parts) {
        CHECKS.due("parted(" + pages + ", -1)", x.parted(pages, -1), sum);
        for (int i = 0; i < parts.length; i++) {
            CHECKS.due("parted(" + pages + ", " + i + ")", x.parted(pages, i), parts[i]);
        }
    }
}
