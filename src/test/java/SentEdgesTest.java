/** The boundary cases of section 7 and of promises 28 to 33, each sentence of the document by itself. */
public final class SentEdgesTest {
    private static final Checks CHECKS = new Checks();

    public static void main(String[] args) {
        onWhoseList();
        onceToEach();
        ordersOfThat();
        firstTier();
        nextTier();
        leastTier();
        tierBounds();
        prices();
        back();
        notBelowZero();
        filed();
        fromDayToDay();
        byDaysPapersNumbers();
        send();
        stateBeforeNo();
        miss();
        bill();
        file();
        old();
        fromAboveTo();
        told();
        CHECKS.end();
    }

    private static Run run(String sentence) {
        return new Run(CHECKS, sentence);
    }

    /** Ten orders of client 0 that want all of 24 pieces, 12 of a day, so that 240 may be sent. */
    private static Run withMany(Run x) {
        x.by("page(0, 0)", "page(0, 1)").by(12, "piece(0, 0, 0, 0, 0)").by(12, "piece(1, 0, 0, 0, 0)");
        for (int i = 0; i < 10; i++) {
            x.order("!1", false);
        }
        return x;
    }

    private static Run sendTo(Run x, int from, int till) {
        for (int i = from; i < till; i++) {
            x.due(1, "send(" + i % 24 + ", " + i / 24 + ")");
        }
        return x;
    }

    private static void onWhoseList() {
        Run x = run("SENT: a PIECE goes to an ORDER on whose LIST it is");
        x.by("page(0, 0)", "page(0, 1)", "write(0, 0, 1)", "write(1, 0, 1)");
        x.by("piece(0, 0, 0, 0, 0)", "piece(0, 0, 0, 0, 0)", "piece(1, 0, 0, 0, 0)", "piece(0, 5, 5, 0, 0)");
        x.say("1").by("order(0, 1, 0, 99, 1, false)").order("1", true).say("1").by("order(0, 1, 0, 0, 20, false)");
        x.say("1").by("order(0, 1, 0, 99, 0, false)").say("1").by("order(0, 1022, 0, 99, 20, false)");
        x.due(-3, "send(1, 0)", "send(1, 1)", "send(2, 1)", "send(2, 2)", "send(0, 3)", "send(0, 4)", "send(3, 0)",
                "send(3, 2)");
        x.due(0, "told(4)").due(1, "send(0, 0)", "send(2, 0)", "send(0, 1)", "send(0, 2)", "send(1, 2)")
                .due(5, "told(4)");
    }

    private static void onceToEach() {
        Run x = run("(once to each)");
        withMany(x);
        for (int i = 0; i < 10; i++) {
            x.due(1, "send(23, " + i + ")").due(-5, "send(23, " + i + ")").due((2 << i) - 1, "about(23, 3)");
        }
        x.due(10, "told(4)", "bill(0, 1)").due(0, "about(22, 3)").due(-1, "send(23, 10)");
    }

    private static void ordersOfThat() {
        Run x = run("BILL of a CLIENT: PIECES SENT to ORDERS of that");
        x.by("page(0, 0)", "piece(0, 0, 0, 0, 0)");
        for (int client = 0; client < 6; client++) {
            x.say("!1").by("order(" + client + ", 1, 0, 0, 1, false)");
        }
        x.by("send(0, 0)", "send(0, 5)").due(1, "bill(0, 1)", "bill(5, 1)").due(3, "bill(0, 0)", "bill(5, 0)");
        x.due(0, "bill(1, 1)", "bill(4, 1)", "bill(1, 0)", "bill(4, 0)").due(2, "told(4)");
    }

    private static void firstTier() {
        Run x = run("the first TIER (1 to 100; 100 at first) at PRICE 0");
        withMany(x);
        x.due(0, "bill(0, 0)", "bill(0, 1)");
        sendTo(x, 0, 1).due(3, "bill(0, 0)");
        sendTo(x, 1, 100).due(300, "bill(0, 0)").due(100, "bill(0, 1)");
        sendTo(x, 100, 101).due(302, "bill(0, 0)").due(101, "bill(0, 1)");
        x.by("set(4, 99)").due(301, "bill(0, 0)");
    }

    private static void nextTier() {
        Run x = run("the next TIER at PRICE 1, all others at PRICE 2");
        sendTo(withMany(x), 0, 199).due(498, "bill(0, 0)");
        sendTo(x, 199, 200).due(500, "bill(0, 0)");
        sendTo(x, 200, 201).due(501, "bill(0, 0)");
        sendTo(x, 201, 240).due(540, "bill(0, 0)").due(240, "bill(0, 1)", "told(4)");
        x.by("set(5, 1000)", "set(6, 1000)", "set(7, 1000)").due(240000, "bill(0, 0)").by("set(7, 0)")
                .due(200000, "bill(0, 0)");
        x.by("set(6, 0)").due(100000, "bill(0, 0)").by("set(5, 0)").due(0, "bill(0, 0)");
    }

    private static void leastTier() {
        Run x = run("TIER (1 to 100; 100 at first)");
        x.due(-2, "set(4, 0)", "set(4, 101)").by("set(4, 1)", "set(5, 100)", "set(6, 10)", "set(7, 1)");
        withMany(x);
        int[] due = {100, 110, 111, 112};
        for (int i = 0; i < 4; i++) {
            sendTo(x, i, i + 1).due(due[i], "bill(0, 0)");
        }
        x.by("set(4, 2)").due(220, "bill(0, 0)").by("set(4, 3)").due(310, "bill(0, 0)").by("set(4, 4)")
                .due(400, "bill(0, 0)");
    }

    private static void tierBounds() {
        Run x = run("4 TIER");
        x.due(-2, "set(4, 0)", "set(4, 101)", "set(4, MIN)", "set(4, MAX)").due(100, "set(4, 1)").due(1, "set(4, 100)");
        x.due(100, "told(14)");
    }

    private static void prices() {
        Run x = run("all others at PRICE 2 (0 to 1000 each; 3, 2, 1 at first)");
        for (int i = 5; i <= 7; i++) {
            x.due(-2, "set(" + i + ", -1)", "set(" + i + ", 1001)").due(8 - i, "told(" + (10 + i) + ")");
        }
        withMany(x).by("set(4, 1)");
        sendTo(x, 0, 3).due(6, "bill(0, 0)");
        x.due(3, "set(5, 1000)").due(1003, "bill(0, 0)").due(2, "set(6, 1000)").due(2001, "bill(0, 0)");
        x.due(1, "set(7, 1000)").due(3000, "bill(0, 0)").due(1000, "set(5, 0)").due(2000, "bill(0, 0)");
        x.due(1000, "set(6, 0)").due(1000, "bill(0, 0)").due(1000, "set(7, 0)").due(0, "bill(0, 0)");
    }

    private static void back() {
        Run x = run("less BACK (0 to 1000; 0 at first) for each MISS that is told of the CLIENT");
        x.due(-2, "set(8, -1)", "set(8, 1001)").by("page(0, 0)", "piece(0, 0, 0, 0, 0)", "set(5, 1000)");
        x.say("!1").by("order(5, 1, 0, 0, 1, false)").by("send(0, 0)").due(1000, "bill(5, 0)");
        x.due(1, "miss(5)").due(1000, "bill(5, 0)").due(0, "set(8, 1)").due(999, "bill(5, 0)").due(2, "miss(5)");
        x.due(998, "bill(5, 0)").due(1, "miss(0)", "miss(4)").due(998, "bill(5, 0)").by("set(8, 500)")
                .due(0, "bill(5, 0)");
        x.by("set(8, 499)").due(2, "bill(5, 0)").by("set(8, 0)").due(1000, "bill(5, 0)").due(1, "bill(5, 1)");
    }

    private static void notBelowZero() {
        Run x = run("not below 0.");
        x.by("page(0, 0)", "piece(0, 0, 0, 0, 0)").say("!1").by("order(0, 1, 0, 0, 1, false)").by("set(8, 1)");
        x.due(0, "bill(0, 0)").by("miss(0)").due(0, "bill(0, 0)").by("send(0, 0)").due(2, "bill(0, 0)");
        x.by("miss(0)").due(1, "bill(0, 0)").by("miss(0)").due(0, "bill(0, 0)").by("miss(0)").due(0, "bill(0, 0)");
        x.by("set(8, 1000)").due(0, "bill(0, 0)").by(400, "miss(0)").due(0, "bill(0, 0)").due(404, "told(5)")
                .due(1, "bill(0, 1)");
    }

    private static void filed() {
        Run x = run("FILED: a PIECE is kept for NAMES (bits; none at first).");
        x.by("page(0, 0)", "piece(0, 0, 0, 0, 0)").due(0, "about(0, 2)");
        for (int names = 1; names < 16; names++) {
            x.due(names - 1, "file(0, " + names + ")").due(names, "about(0, 2)");
            for (int name = 0; name < 4; name++) {
                x.due(names >> name & 1, "old(" + name + ", 0, 0, -1)");
            }
        }
        x.due(15, "file(0, 0)").due(0, "old(0, 0, 0, -1)", "old(3, 0, 0, -1)", "about(0, 2)");
    }

    private static void fromDayToDay() {
        Run x = run("OLD of a NAME: PIECES that are FILED for it from a DAY to another one");
        x.by("page(0, 0)", "page(0, 50)", "page(0, 99)");
        for (int i = 0; i < 3; i++) {
            x.by("piece(" + i + ", 0, 0, 0, 0)", "file(" + i + ", 4)");
        }
        x.due(3, "old(2, 0, 99, -1)").due(2, "old(2, 1, 99, -1)", "old(2, 0, 98, -1)", "old(2, 0, 99, 2)");
        x.due(1, "old(2, 1, 98, -1)", "old(2, 50, 50, -1)", "old(2, 50, 50, 0)", "old(2, 0, 49, -1)",
                "old(2, 51, 99, -1)");
        x.due(0, "old(2, 1, 49, -1)", "old(2, 51, 98, -1)", "old(1, 0, 99, -1)", "old(3, 0, 99, -1)",
                "old(2, 0, 0, 0)");
        x.due(2, "old(2, 99, 99, 0)").due(-6, "old(2, 1, 49, 0)", "old(2, 0, 0, 1)");
    }

    private static void byDaysPapersNumbers() {
        Run x = run("by DAYS, PAPERS, numbers.");
        x.by("page(0, 9)", "page(5, 8)", "page(4, 8)", "page(4, 8)", "page(9, 7)");
        x.by("piece(0, 0, 0, 0, 0)", "piece(1, 0, 0, 0, 0)", "piece(3, 0, 0, 0, 0)", "piece(2, 0, 0, 0, 0)");
        x.by("piece(4, 0, 0, 0, 0)", "piece(3, 0, 0, 0, 0)", "piece(1, 0, 0, 0, 0)");
        for (int i = 6; i >= 0; i--) {
            x.by("file(" + i + ", 1)");
        }
        int[] due = {4, 2, 3, 5, 1, 6, 0};
        for (int i = 0; i < 7; i++) {
            x.due(due[i], "old(0, 0, 99, " + i + ")");
        }
        x.due(7, "old(0, 0, 99, -1)").due(-6, "old(0, 0, 99, 7)");
    }

    private static void send() {
        Run x = run("A PIECE is SENT to an ORDER: 1. UNKNOWN; STATE: it is not on its LIST; NO: it was SENT to it.");
        x.due(-1, "send(0, 0)").by("page(0, 0)", "piece(0, 0, 0, 0, 0)").due(-1, "send(0, 0)").order("!1", false)
                .order("1", false);
        x.due(-1, "send(1, 0)", "send(-1, 0)", "send(0, 2)", "send(0, -1)", "send(1, 2)", "send(MIN, 0)",
                "send(0, MAX)");
        x.due(-3, "send(0, 1)").due(0, "told(4)").due(1, "send(0, 0)").due(-5, "send(0, 0)").due(-3, "send(0, 1)");
        x.due(1, "told(4)", "about(0, 3)").due(-1, "send(1, 0)", "send(0, 2)");
    }

    private static void stateBeforeNo() {
        Run x = run("STATE: it is not on its LIST; NO: it was SENT to it.");
        x.by("page(1, 0)", "page(0, 0)", "write(0, 0, 1)", "piece(0, 0, 0, 0, 0)").order("1", true);
        x.due(1, "send(0, 0)").due(-5, "send(0, 0)").by("write(1, 0, 1)", "piece(1, 0, 0, 0, 0)").due(-3, "send(0, 0)");
        x.due(1, "about(0, 3)", "told(4)", "bill(0, 1)").by("write(1, 0, -1)").due(-5, "send(0, 0)");
    }

    private static void miss() {
        Run x = run("A MISS of a CLIENT (0 to 5): how many. UNKNOWN.");
        x.due(-1, "miss(-1)", "miss(6)", "miss(MIN)", "miss(MAX)").due(0, "told(5)");
        x.due(1, "miss(0)", "miss(5)").due(2, "miss(5)", "miss(0)").due(3, "miss(0)").due(5, "told(5)")
                .due(-1, "miss(6)").due(5, "told(5)");
    }

    private static void bill() {
        Run x = run("BILL of a CLIENT (what = 0), PIECES SENT (1). UNKNOWN; OUTSIDE.");
        x.by("page(0, 0)", "piece(0, 0, 0, 0, 0)").say("!1").by("order(5, 1, 0, 0, 1, false)").by("send(0, 0)");
        x.due(3, "bill(5, 0)").due(1, "bill(5, 1)").due(0, "bill(0, 0)", "bill(0, 1)");
        x.due(-2, "bill(5, -1)", "bill(5, 2)", "bill(0, MIN)", "bill(0, MAX)");
        x.due(-1, "bill(6, 0)", "bill(-1, 0)", "bill(6, 2)", "bill(-1, -1)", "bill(MIN, 0)", "bill(MAX, 0)");
    }

    private static void file() {
        Run x = run("A PIECE is FILED for NAMES (bits 0 to 15): which it was. UNKNOWN; OUTSIDE.");
        x.due(-1, "file(0, 0)").by("page(0, 0)", "piece(0, 0, 0, 0, 0)");
        x.due(-2, "file(0, -1)", "file(0, 16)", "file(0, MIN)", "file(0, MAX)").due(0, "file(0, 0)", "file(0, 15)");
        x.due(15, "file(0, 8)").due(8, "about(0, 2)", "file(0, 0)");
        x.due(-1, "file(1, 0)", "file(-1, 0)", "file(1, 16)", "file(-1, -1)", "file(MIN, 0)", "file(MAX, 0)");
    }

    private static void old() {
        Run x = run("UNKNOWN; OUTSIDE: DAYS 0 to 99.");
        x.by("page(0, 0)", "page(0, 99)", "piece(0, 0, 0, 0, 0)", "piece(1, 0, 0, 0, 0)", "file(0, 9)", "file(1, 9)");
        x.due(2, "old(0, 0, 99, -1)", "old(3, 0, 99, -1)").due(0, "old(0, 0, 99, 0)").due(1, "old(3, 0, 99, 1)");
        x.due(-2, "old(0, -1, 99, -1)", "old(0, 0, 100, -1)", "old(0, 100, 99, -1)", "old(0, 0, -1, -1)",
                "old(0, 100, -1, 0)");
        x.due(-2, "old(0, MIN, 99, 0)", "old(0, 0, MAX, 0)");
        x.due(-1, "old(-1, 0, 99, -1)", "old(4, 0, 99, -1)", "old(4, -1, 0, 0)", "old(-1, 0, 100, 0)",
                "old(MIN, 0, 0, 0)", "old(MAX, 0, 0, 0)");
        x.due(-6, "old(0, 0, 99, 2)", "old(0, 0, 99, -2)", "old(0, 0, 99, MIN)", "old(0, 0, 99, MAX)",
                "old(1, 0, 99, 0)");
    }

    private static void fromAboveTo() {
        Run x = run("how many (i = -1; 0, if from is above to), the i-th; NONE.");
        x.by("page(0, 5)", "page(0, 6)", "piece(0, 0, 0, 0, 0)", "piece(1, 0, 0, 0, 0)", "file(0, 1)", "file(1, 1)");
        x.due(2, "old(0, 5, 6, -1)").due(1, "old(0, 5, 5, -1)", "old(0, 6, 6, -1)")
                .due(0, "old(0, 6, 5, -1)", "old(0, 99, 0, -1)");
        x.due(-6, "old(0, 6, 5, 0)", "old(0, 99, 0, 0)").due(-2, "old(0, 100, 0, -1)", "old(0, 0, -1, -1)");
    }

    private static void told() {
        Run x = run("0 PAGES, 1 PIECES, 2 ORDERS, 3 signs, 4 PIECES SENT in all, 5 MISSES, 10 to 18 what set() sets. OUTSIDE.");
        x.due(-2, "told(-1)", "told(6)", "told(9)", "told(19)", "told(MIN)", "told(MAX)", "told(7)", "told(8)");
        withMany(x).by(6, "page(0, 0)").by(40, "say(33)");
        sendTo(x, 0, 30).by(7, "miss(5)").by("miss(0)");
        x.due(8, "told(0)").due(24, "told(1)").due(10, "told(2)").due(40, "told(3)").due(30, "told(4)")
                .due(8, "told(5)");
        for (int i = 0; i < 9; i++) {
            x.by("set(" + i + ", " + (20 - i) + ")").due(20 - i, "told(" + (10 + i) + ")");
        }
        x.due(-2, "told(-1)", "told(6)", "told(9)", "told(19)");
    }
}
