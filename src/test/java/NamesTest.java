/** Promises 18 to 20: name, counts, likely. */
public final class NamesTest {
    private static final Checks CHECKS = new Checks();

    public static void main(String[] args) {
        name();
        counts();
        likely();
        severalPlaces();
        CHECKS.end();
    }

    private static void name() {
        CHECKS.about("promise 18");
        CutBureau x = new CutBureau();
        CHECKS.due("name(-1, 100)", x.name(-1, 100), -1);
        CHECKS.due("name(4, 0)", x.name(4, 0), -1);
        CHECKS.due("name(0, -2)", x.name(0, -2), -2);
        CHECKS.due("name(0, 100)", x.name(0, 100), -2);
        CHECKS.due("name(3, 99)", x.name(3, 99), -6);
        CHECKS.due("name(3, 0)", x.name(3, 0), 99);
        CHECKS.due("name(3, -1)", x.name(3, -1), 0);
        CHECKS.due("name(3, -1)", x.name(3, -1), -6);
        CHECKS.due("name(0, 99)", x.name(0, 99), -6);
    }

    private static void counts() {
        CHECKS.about("promise 19");
        CutBureau x = new CutBureau();
        CHECKS.due("counts(4, 100, 0)", x.counts(4, 100, 0), -1);
        CHECKS.due("counts(-1, 0, 0)", x.counts(-1, 0, 0), -1);
        CHECKS.due("counts(0, -1, 0)", x.counts(0, -1, 0), -2);
        CHECKS.due("counts(0, 100, 0)", x.counts(0, 100, 0), -2);
        CHECKS.due("counts(0, 0, 101)", x.counts(0, 0, 101), -2);
        CHECKS.due("counts(0, 0, -101)", x.counts(0, 0, -101), -2);
        CHECKS.due("counts(0, 99, 100)", x.counts(0, 99, 100), 0);
        CHECKS.due("counts(0, 99, -100)", x.counts(0, 99, -100), 100);
        CHECKS.due("counts(0, 99, 0)", x.counts(0, 99, 0), -100);
        CHECKS.due("counts(1, 99, 0)", x.counts(1, 99, 0), 0);
        CHECKS.due("counts(0, 0, 0)", x.counts(0, 0, 0), 0);
    }

    private static void likely() {
        CHECKS.about("promise 20");
        CutBureau x = new CutBureau();
        x.page(0, 0);
        Checks.write(x, 0, 0, 20, 21, 22, 7, 23, 24, 25);
        x.piece(0, 0, 0, 0, 9);
        x.piece(0, 1, 1, 0, 9);
        x.piece(0, 0, 0, 3, 4);
        due(x, 0, 0, 0, 0, -6);
        x.name(0, 7);
        due(x, 0, 0, 3, 0, 3);
        for (int word = 20; word <= 25; word++) {
            x.counts(0, word, 1 << word - 20);
        }
        x.counts(1, 20, 50);
        due(x, 0, 0, 1, 63, 3);
        due(x, 0, 2, 3, 8, 0);
        due(x, 0, 1, 0, 0, -6);
        x.set(1, 2);
        due(x, 0, 0, 1, 30, 3);
        x.set(1, 1);
        due(x, 0, 0, 1, 12, 3);
        x.set(2, 12);
        due(x, 0, 0, 1, 12, 3);
        x.set(2, 13);
        due(x, 0, 0, 3, 12, 3);
        x.counts(0, 22, -21);
        due(x, 0, 0, 2, -13, 3);
        x.set(2, 14);
        due(x, 0, 0, 3, -13, 3);
        x.set(1, 0);
        due(x, 0, 0, 3, 0, 3);
        x.name(0, -1);
        due(x, 0, 0, 0, 0, -6);
        CHECKS.due("likely(4, 0, 0)", x.likely(4, 0, 0), -1);
        CHECKS.due("likely(-1, 0, 9)", x.likely(-1, 0, 9), -1);
        CHECKS.due("likely(0, 3, 0)", x.likely(0, 3, 0), -1);
        CHECKS.due("likely(0, 0, 3)", x.likely(0, 0, 3), -2);
        CHECKS.due("likely(0, 0, -1)", x.likely(0, 0, -1), -2);
    }

    private static void severalPlaces() {
        CHECKS.about("promise 20, several places");
        CutBureau x = new CutBureau();
        x.page(0, 0);
        Checks.write(x, 0, 0, 7, 1, 2, 7, 2, 3, 7, 2);
        x.piece(0, 0, 0, 0, 9);
        x.name(2, 7);
        x.set(1, 1);
        x.counts(2, 1, -30);
        x.counts(2, 2, 5);
        due(x, 2, 0, 1, 10, 3);
        x.counts(2, 3, 5);
        due(x, 2, 0, 1, 10, 3);
        x.counts(2, 3, 6);
        due(x, 2, 0, 1, 11, 6);
        x.counts(2, 2, -20);
        x.counts(2, 3, -50);
        due(x, 2, 0, 2, -30, 0);
        x.counts(2, 7, 100);
        due(x, 2, 0, 2, -30, 0);
        x.set(1, 3);
        due(x, 2, 0, 1, 80, 3);
    }

    private static void due(CutBureau x, int name, int piece, int verdict, int sum, int place) {
        String call = "likely(" + name + ", " + piece + ", ";
        CHECKS.due(call + "0)", x.likely(name, piece, 0), verdict);
        CHECKS.due(call + "1)", x.likely(name, piece, 1), sum);
        CHECKS.due(call + "2)", x.likely(name, piece, 2), place);
    }
}
