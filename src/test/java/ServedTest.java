/** Promises 21 and 22: asked, served. */
public final class ServedTest {
    private static final Checks CHECKS = new Checks();

    public static void main(String[] args) {
        asked();
        atMostNine();
        served();
        firstOfSeveral();
        oneForTwo();
        oddRing();
        CHECKS.end();
    }

    private static void asked() {
        CHECKS.about("promise 21");
        CutBureau x = new CutBureau();
        int[] papers = {1, 0, 1, 1, 1};
        int[] days = {3, 3, 3, 3, 4};
        for (int i = 0; i < 5; i++) {
            x.page(papers[i], days[i]);
            x.write(i, 0, 1);
            x.piece(i, 0, 0, 0, 0);
        }
        x.sides(2, 0);
        CHECKS.due("asked(0, -1) without orders", x.asked(0, -1), 0);
        CHECKS.due("asked(0, 0) without orders", x.asked(0, 0), -6);
        Checks.order(x, "1", false);
        Checks.order(x, "2", false);
        Checks.say(x, "1");
        x.order(1, 1023, 0, 99, 2, false);
        int[] due = {0, 2, 200};
        CHECKS.due("asked(0, -1)", x.asked(0, -1), 3);
        CHECKS.due("asked(2, -1)", x.asked(2, -1), 3);
        for (int i = 0; i < due.length; i++) {
            CHECKS.due("asked(0, " + i + ")", x.asked(0, i), due[i]);
            CHECKS.due("asked(2, " + i + ")", x.asked(2, i), due[i]);
        }
        CHECKS.due("asked(0, 3)", x.asked(0, 3), -6);
        CHECKS.due("asked(0, -2)", x.asked(0, -2), -6);
        CHECKS.due("asked(1, -1)", x.asked(1, -1), 2);
        CHECKS.due("asked(1, 1)", x.asked(1, 1), 201);
        CHECKS.due("asked(3, -1)", x.asked(3, -1), 1);
        CHECKS.due("asked(3, 0)", x.asked(3, 0), 3);
        CHECKS.due("asked(4, 1)", x.asked(4, 1), 204);
        CHECKS.due("asked(5, -1)", x.asked(5, -1), -1);
        CHECKS.due("asked(-1, -1)", x.asked(-1, -1), -1);
        x.send(0, 0);
        CHECKS.due("asked(0, -1), one sent", x.asked(0, -1), 3);
    }

    private static void atMostNine() {
        CHECKS.about("promise 21, at most 9");
        CutBureau x = new CutBureau();
        x.page(0, 0);
        for (int i = 0; i < 6; i++) {
            x.write(0, 10 * i, 1);
            x.piece(0, i, i, 0, 0);
        }
        Checks.order(x, "1", false);
        Checks.order(x, "1", false);
        CHECKS.due("asked(0, -1)", x.asked(0, -1), 9);
        CHECKS.due("asked(0, 8)", x.asked(0, 8), 102);
        CHECKS.due("asked(0, 9)", x.asked(0, 9), -6);
        CHECKS.due("served(0, 1, 0)", x.served(0, 1, 0), 6);
        CHECKS.due("served(0, 1, 1)", x.served(0, 1, 1), 63);
        CHECKS.due("served(0, 2, 1)", x.served(0, 2, 1), 511);
    }

    /** Piece 0 clashes with 1, 2 and 3, which have nothing in common. */
    private static void served() {
        CHECKS.about("promise 22");
        CutBureau x = new CutBureau();
        x.page(0, 0);
        x.page(0, 0);
        x.sides(0, 1);
        x.piece(0, 0, 2, 0, 0);
        x.piece(0, 0, 0, 0, 0);
        x.piece(0, 1, 1, 0, 0);
        x.piece(1, 2, 2, 9, 9);
        CHECKS.due("served(0, 1, 0) without orders", x.served(0, 1, 0), 0);
        CHECKS.due("served(0, 4, 1) without orders", x.served(0, 4, 1), 0);
        Checks.order(x, "!1", false);
        CHECKS.due("served(0, 1, 0)", x.served(0, 1, 0), 3);
        CHECKS.due("served(0, 1, 1)", x.served(0, 1, 1), 14);
        CHECKS.due("served(1, 1, 1)", x.served(1, 1, 1), 14);
        CHECKS.due("served(0, 2, 0)", x.served(0, 2, 0), 4);
        CHECKS.due("served(0, 4, 1)", x.served(0, 4, 1), 15);
        CHECKS.due("served(2, 0, 0)", x.served(2, 0, 0), -1);
        CHECKS.due("served(-1, 1, 0)", x.served(-1, 1, 0), -1);
        CHECKS.due("served(0, 0, 0)", x.served(0, 0, 0), -2);
        CHECKS.due("served(0, 5, 0)", x.served(0, 5, 0), -2);
        CHECKS.due("served(0, 1, 2)", x.served(0, 1, 2), -2);
        CHECKS.due("served(0, 1, -1)", x.served(0, 1, -1), -2);
    }

    /** A chain of four, each clashing with the next: 0 and 2, 0 and 3, 1 and 3 fit one sheet. */
    private static void firstOfSeveral() {
        CHECKS.about("promise 22, the first of several");
        CutBureau x = new CutBureau();
        x.page(0, 0);
        x.piece(0, 0, 0, 0, 1);
        x.piece(0, 0, 0, 1, 2);
        x.piece(0, 0, 0, 2, 3);
        x.piece(0, 0, 0, 3, 4);
        Checks.order(x, "!1", false);
        CHECKS.due("served(0, 1, 0)", x.served(0, 1, 0), 2);
        CHECKS.due("served(0, 1, 1)", x.served(0, 1, 1), 5);
        CHECKS.due("served(0, 2, 1)", x.served(0, 2, 1), 15);
    }

    private static void oneForTwo() {
        CHECKS.about("promise 22, one piece for several orders");
        CutBureau x = new CutBureau();
        x.page(0, 0);
        x.piece(0, 0, 0, 0, 1);
        for (int i = 0; i < 5; i++) {
            Checks.order(x, "!1", false);
        }
        for (int n = 1; n <= 4; n++) {
            CHECKS.due("served(0, " + n + ", 0)", x.served(0, n, 0), n);
            CHECKS.due("served(0, " + n + ", 1)", x.served(0, n, 1), (1 << n) - 1);
        }
    }

    /** Five in a ring, each clashing with the next: two sheets serve four, three all. */
    private static void oddRing() {
        CHECKS.about("promise 22, a ring of five");
        CutBureau x = new CutBureau();
        x.page(0, 0);
        x.piece(0, 0, 0, 0, 5);
        x.piece(0, 0, 5, 5, 5);
        x.piece(0, 5, 5, 3, 5);
        x.piece(0, 3, 5, 0, 3);
        x.piece(0, 0, 3, 0, 0);
        Checks.order(x, "!1", false);
        int[] due = {5, 15, 31, 31};
        for (int n = 1; n <= 4; n++) {
            CHECKS.due("served(0, " + n + ", 1)", x.served(0, n, 1), due[n - 1]);
        }
    }
}
