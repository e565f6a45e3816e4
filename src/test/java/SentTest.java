/** Promises 28 to 33: send, miss, bill, file, old, told. */
public final class SentTest {
    private static final Checks CHECKS = new Checks();

    public static void main(String[] args) {
        send();
        miss();
        bill();
        file();
        old();
        told();
        CHECKS.end();
    }

    private static void send() {
        CHECKS.about("promise 28");
        CutBureau x = new CutBureau();
        x.page(1, 1);
        x.page(0, 1);
        for (int page = 0; page < 2; page++) {
            Checks.write(x, page, 0, 1, 2);
            x.piece(page, 0, 0, 0, 9);
        }
        CHECKS.due("send(0, 0) without orders", x.send(0, 0), -1);
        Checks.order(x, "1", false);
        Checks.order(x, "1", true);
        Checks.order(x, "3", false);
        Checks.say(x, "1");
        x.order(0, 1023, 0, 99, 1, false);
        CHECKS.due("send(2, 0)", x.send(2, 0), -1);
        CHECKS.due("send(-1, 0)", x.send(-1, 0), -1);
        CHECKS.due("send(0, 4)", x.send(0, 4), -1);
        CHECKS.due("send(0, 2): not wanted", x.send(0, 2), -3);
        CHECKS.due("send(0, 1): a double is ahead", x.send(0, 1), -3);
        CHECKS.due("send(0, 3): beyond the most", x.send(0, 3), -3);
        CHECKS.due("told(4)", x.told(4), 0);
        CHECKS.due("send(0, 0)", x.send(0, 0), 1);
        CHECKS.due("send(0, 0)", x.send(0, 0), -5);
        CHECKS.due("send(1, 0)", x.send(1, 0), 1);
        CHECKS.due("send(1, 1)", x.send(1, 1), 1);
        CHECKS.due("send(1, 3)", x.send(1, 3), 1);
        CHECKS.due("about(1, 3)", x.about(1, 3), 11);
        CHECKS.due("told(4)", x.told(4), 4);
        x.page(0, 0);
        Checks.write(x, 2, 0, 1, 2);
        x.piece(2, 0, 0, 0, 9);
        CHECKS.due("send(1, 1): sent, and not on the list any more", x.send(1, 1), -3);
        CHECKS.due("told(4)", x.told(4), 4);
    }

    private static void miss() {
        CHECKS.about("promise 29");
        CutBureau x = new CutBureau();
        CHECKS.due("miss(-1)", x.miss(-1), -1);
        CHECKS.due("miss(6)", x.miss(6), -1);
        CHECKS.due("miss(5)", x.miss(5), 1);
        CHECKS.due("miss(5)", x.miss(5), 2);
        CHECKS.due("miss(0)", x.miss(0), 1);
        CHECKS.due("told(5)", x.told(5), 3);
    }

    private static void bill() {
        CHECKS.about("promise 30");
        CutBureau x = new CutBureau();
        x.page(0, 0);
        for (int i = 0; i < 7; i++) {
            x.piece(0, 0, 0, 0, 0);
        }
        for (int client = 0; client < 2; client++) {
            Checks.say(x, "!1");
            x.order(client, 1, 0, 0, 20, false);
        }
        Checks.say(x, "!1");
        x.order(0, 1, 0, 0, 20, false);
        CHECKS.due("bill(0, 0)", x.bill(0, 0), 0);
        for (int i = 0; i < 6; i++) {
            x.send(i, 0);
        }
        x.send(0, 1);
        x.send(0, 2);
        CHECKS.due("bill(0, 1)", x.bill(0, 1), 7);
        CHECKS.due("bill(1, 1)", x.bill(1, 1), 1);
        CHECKS.due("bill(5, 1)", x.bill(5, 1), 0);
        CHECKS.due("bill(0, 0)", x.bill(0, 0), 21);
        CHECKS.due("bill(1, 0)", x.bill(1, 0), 3);
        x.set(5, 100);
        x.set(6, 10);
        x.set(7, 1);
        int[] dues = {115, 223, 331, 430, 520, 610, 700};
        for (int tier = 1; tier <= 7; tier++) {
            x.set(4, tier);
            CHECKS.due("bill(0, 0), tier " + tier, x.bill(0, 0), dues[tier - 1]);
        }
        x.miss(0);
        CHECKS.due("bill(0, 0), back 0", x.bill(0, 0), 700);
        x.set(8, 350);
        CHECKS.due("bill(0, 0), a miss", x.bill(0, 0), 350);
        CHECKS.due("bill(1, 0), no miss", x.bill(1, 0), 100);
        x.miss(0);
        CHECKS.due("bill(0, 0), two misses", x.bill(0, 0), 0);
        x.miss(0);
        CHECKS.due("bill(0, 0), three misses", x.bill(0, 0), 0);
        CHECKS.due("bill(0, 1)", x.bill(0, 1), 7);
        CHECKS.due("bill(6, 2)", x.bill(6, 2), -1);
        CHECKS.due("bill(-1, 0)", x.bill(-1, 0), -1);
        CHECKS.due("bill(0, 2)", x.bill(0, 2), -2);
        CHECKS.due("bill(0, -1)", x.bill(0, -1), -2);
    }

    private static void file() {
        CHECKS.about("promise 31");
        CutBureau x = new CutBureau();
        x.page(0, 0);
        x.piece(0, 0, 0, 0, 0);
        x.piece(0, 0, 0, 0, 0);
        CHECKS.due("file(2, 16)", x.file(2, 16), -1);
        CHECKS.due("file(-1, 0)", x.file(-1, 0), -1);
        CHECKS.due("file(0, -1)", x.file(0, -1), -2);
        CHECKS.due("file(0, 16)", x.file(0, 16), -2);
        CHECKS.due("file(0, 15)", x.file(0, 15), 0);
        CHECKS.due("file(0, 6)", x.file(0, 6), 15);
        CHECKS.due("file(0, 0)", x.file(0, 0), 6);
        CHECKS.due("file(1, 0)", x.file(1, 0), 0);
    }

    private static void old() {
        CHECKS.about("promise 32");
        CutBureau x = new CutBureau();
        int[] papers = {3, 2, 2, 9, 0};
        int[] days = {50, 50, 49, 0, 99};
        for (int i = 0; i < 5; i++) {
            x.page(papers[i], days[i]);
            x.piece(i, 0, 0, 0, 0);
        }
        x.piece(1, 5, 5, 9, 9);
        x.piece(2, 5, 5, 9, 9);
        for (int i = 0; i < 6; i++) {
            x.file(i, i == 0 ? 15 : 8);
        }
        int[] due = {3, 2, 1, 5, 0, 4};
        CHECKS.due("old(3, 0, 99, -1)", x.old(3, 0, 99, -1), 6);
        for (int i = 0; i < due.length; i++) {
            CHECKS.due("old(3, 0, 99, " + i + ")", x.old(3, 0, 99, i), due[i]);
        }
        CHECKS.due("old(3, 0, 99, 6)", x.old(3, 0, 99, 6), -6);
        CHECKS.due("old(3, 0, 99, -2)", x.old(3, 0, 99, -2), -6);
        CHECKS.due("old(0, 50, 50, -1)", x.old(0, 50, 50, -1), 1);
        CHECKS.due("old(3, 49, 50, -1)", x.old(3, 49, 50, -1), 4);
        CHECKS.due("old(3, 49, 50, 0)", x.old(3, 49, 50, 0), 2);
        CHECKS.due("old(3, 50, 49, -1)", x.old(3, 50, 49, -1), 0);
        CHECKS.due("old(3, 50, 49, 0)", x.old(3, 50, 49, 0), -6);
        CHECKS.due("old(4, -1, 0, 0)", x.old(4, -1, 0, 0), -1);
        CHECKS.due("old(-1, 0, 0, 0)", x.old(-1, 0, 0, 0), -1);
        CHECKS.due("old(0, -1, 0, 0)", x.old(0, -1, 0, 0), -2);
        CHECKS.due("old(0, 0, 100, -1)", x.old(0, 0, 100, -1), -2);
        CHECKS.due("old(0, 100, 0, -1)", x.old(0, 100, 0, -1), -2);
    }

    private static void told() {
        CHECKS.about("promise 33");
        CutBureau x = new CutBureau();
        for (int what : new int[] {-1, 6, 9, 19, Integer.MAX_VALUE, Integer.MIN_VALUE}) {
            CHECKS.due("told(" + what + ")", x.told(what), -2);
        }
        x.page(0, 0);
        x.page(0, 0);
        x.piece(0, 0, 0, 0, 0);
        x.piece(0, 0, 0, 0, 0);
        x.piece(0, 0, 0, 0, 0);
        for (int i = 0; i < 4; i++) {
            Checks.order(x, "!1", false);
        }
        Checks.say(x, "1&!2|");
        for (int order = 0; order < 2; order++) {
            for (int piece = 0; piece < 3; piece++) {
                x.send(piece, order);
            }
        }
        for (int i = 0; i < 7; i++) {
            x.miss(i % 6);
        }
        for (int what = 0; what <= 5; what++) {
            CHECKS.due("told(" + what + ")", x.told(what), what + 2);
        }
        for (int i = 0; i < 9; i++) {
            x.set(i, 11 + i);
        }
        for (int i = 0; i < 9; i++) {
            CHECKS.due("told(" + (10 + i) + ")", x.told(10 + i), 11 + i);
        }
    }
}
