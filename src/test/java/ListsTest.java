/** Promises 15 to 17: changes, set, list. */
public final class ListsTest {
    private static final Checks CHECKS = new Checks();

    public static void main(String[] args) {
        changes();
        set();
        list();
        once();
        CHECKS.end();
    }

    private static void changes() {
        CHECKS.about("promise 15");
        CutBureau x = new CutBureau();
        x.page(0, 0);
        Checks.write(x, 0, 0, 1, 2, 3, 4, 5);
        Checks.write(x, 0, 10, 2, 3, 4, 5, 6);
        Checks.write(x, 0, 20, 5, 4, 3, 2, 1);
        Checks.write(x, 0, 30, 1, 9, 3, 5);
        for (int line = 0; line < 5; line++) {
            x.piece(0, line, line, 0, 9);
        }
        x.piece(0, 0, 5, 0, 9);
        CHECKS.due("changes(0, 0)", x.changes(0, 0), 0);
        CHECKS.due("changes(0, 1): one dropped, one put in", x.changes(0, 1), 2);
        CHECKS.due("changes(1, 0)", x.changes(1, 0), 2);
        CHECKS.due("changes(0, 2)", x.changes(0, 2), 4);
        CHECKS.due("changes(0, 3): one made another, one dropped", x.changes(0, 3), 2);
        CHECKS.due("changes(0, 4): of none", x.changes(0, 4), 5);
        CHECKS.due("changes(4, 4)", x.changes(4, 4), 0);
        CHECKS.due("changes(5, 1)", x.changes(5, 1), 14);
        CHECKS.due("changes(0, 6)", x.changes(0, 6), -1);
        CHECKS.due("changes(-1, 0)", x.changes(-1, 0), -1);
        for (int i = 0; i < 60; i++) {
            x.write(0, i, i);
        }
        CHECKS.due("changes(5, 4), of 60 words", x.changes(5, 4), 50);
        CHECKS.due("changes(5, 5), of 60 words", x.changes(5, 5), 0);
    }

    private static void set() {
        CHECKS.about("promise 16");
        CutBureau x = new CutBureau();
        int[] first = {20, 5, 10, 500, 100, 3, 2, 1, 0};
        int[] least = {0, 0, 1, 0, 1, 0, 0, 0, 0};
        int[] greatest = {100, 20, 1000, 1000, 100, 1000, 1000, 1000, 1000};
        for (int i = 0; i < 9; i++) {
            CHECKS.due("set(" + i + ", below)", x.set(i, least[i] - 1), -2);
            CHECKS.due("set(" + i + ", above)", x.set(i, greatest[i] + 1), -2);
            CHECKS.due("set(" + i + ", least)", x.set(i, least[i]), first[i]);
            CHECKS.due("set(" + i + ", greatest)", x.set(i, greatest[i]), least[i]);
            CHECKS.due("told", x.told(10 + i), greatest[i]);
        }
        CHECKS.due("set(-1, 1)", x.set(-1, 1), -2);
        CHECKS.due("set(9, 1)", x.set(9, 1), -2);
        CHECKS.due("set(least, least)", x.set(Integer.MIN_VALUE, Integer.MIN_VALUE), -2);
    }

    private static void list() {
        CHECKS.about("promise 17");
        CutBureau x = new CutBureau();
        int[] papers = {2, 0, 1, 1, 0};
        int[] days = {5, 5, 5, 6, 5};
        for (int i = 0; i < 5; i++) {
            x.page(papers[i], days[i]);
            x.write(i, 0, 1);
            x.piece(i, 0, 0, 0, 0);
        }
        x.piece(1, 0, 1, 0, 0);
        x.piece(0, 3, 3, 0, 0);
        Checks.order(x, "1", false);
        int[] due = {1, 4, 5, 2, 0};
        CHECKS.due("list(0, 5, -1)", x.list(0, 5, -1), 5);
        for (int i = 0; i < due.length; i++) {
            CHECKS.due("list(0, 5, " + i + ")", x.list(0, 5, i), due[i]);
        }
        CHECKS.due("list(0, 5, 5)", x.list(0, 5, 5), -6);
        CHECKS.due("list(0, 5, -2)", x.list(0, 5, -2), -6);
        CHECKS.due("list(0, 6, 0)", x.list(0, 6, 0), 3);
        CHECKS.due("list(0, 7, -1)", x.list(0, 7, -1), 0);
        CHECKS.due("list(0, 7, 0)", x.list(0, 7, 0), -6);
        CHECKS.due("list(0, 100, 0)", x.list(0, 100, 0), -2);
        CHECKS.due("list(0, -1, 0)", x.list(0, -1, 0), -2);
        CHECKS.due("list(1, 100, 0)", x.list(1, 100, 0), -1);
        CHECKS.due("list(-1, 5, 0)", x.list(-1, 5, 0), -1);
        x.say('1');
        x.order(0, 1 << 1 | 1, 0, 99, 2, false);
        CHECKS.due("list(1, 5, -1), at most 2", x.list(1, 5, -1), 2);
        CHECKS.due("list(1, 5, 1), at most 2", x.list(1, 5, 1), 4);
        CHECKS.due("list(1, 5, 2), at most 2", x.list(1, 5, 2), -6);
        x.say('1');
        x.order(0, 1 << 1, 0, 5, 0, false);
        CHECKS.due("list(2, 5, -1), at most 0", x.list(2, 5, -1), 0);
        x.say('1');
        x.order(0, 1 << 1, 0, 5, 20, false);
        CHECKS.due("list(3, 5, 0), of paper 1", x.list(3, 5, 0), 2);
        CHECKS.due("list(3, 6, -1), after its days", x.list(3, 6, -1), 0);
    }

    /** Pieces 0 to 3 are one chain of doubles, of which the ends are none of each other. */
    private static void once() {
        CHECKS.about("promise 17, once");
        CutBureau x = new CutBureau();
        int[] papers = {3, 2, 1, 0};
        int[] days = {1, 1, 1, 2};
        for (int i = 0; i < 4; i++) {
            x.page(papers[i], days[i]);
            Checks.write(x, i, 0, 1, 2, 3, 4, 5);
            for (int k = 0; k < i; k++) {
                x.write(i, k, 10 + k);
            }
            x.piece(i, 0, 0, 0, 9);
        }
        Checks.order(x, "5", true);
        CHECKS.due("list(0, 1, -1)", x.list(0, 1, -1), 1);
        CHECKS.due("list(0, 1, 0): of the least paper", x.list(0, 1, 0), 2);
        CHECKS.due("list(0, 2, -1): one of a day before", x.list(0, 2, -1), 0);
        Checks.order(x, "1|12", true);
        CHECKS.due("list(1, 1, 0): those ahead are not wanted", x.list(1, 1, 0), 0);
        CHECKS.due("list(1, 2, -1): of the family, though no double", x.list(1, 2, -1), 0);
        Checks.say(x, "5");
        x.order(0, 1023, 2, 2, 20, true);
        CHECKS.due("list(2, 2, 0): those ahead are before its days", x.list(2, 2, 0), 3);
        x.set(0, 19);
        CHECKS.due("list(0, 1, -1), alike 19", x.list(0, 1, -1), 3);
        CHECKS.due("list(0, 2, 0), alike 19", x.list(0, 2, 0), 3);
        x.set(0, 20);
        x.write(1, 4, -1);
        CHECKS.due("list(0, 1, -1): the chain is cut", x.list(0, 1, -1), 2);
        CHECKS.due("list(0, 1, 1)", x.list(0, 1, 1), 0);
        Checks.say(x, "5");
        x.order(0, 1023, 0, 99, 1, true);
        CHECKS.due("list(3, 1, -1), at most 1", x.list(3, 1, -1), 1);
        CHECKS.due("list(3, 1, 0), at most 1", x.list(3, 1, 0), 2);
        Checks.order(x, "!99", true);
        x.piece(0, 5, 5, 0, 0);
        x.piece(0, 5, 5, 0, 0);
        x.piece(0, 0, 0, 0, 9);
        CHECKS.due("list(4, 1, -1): each without words is its own family", x.list(4, 1, -1), 5);
        CHECKS.due("list(4, 1, 4)", x.list(4, 1, 4), 5);
    }
}
