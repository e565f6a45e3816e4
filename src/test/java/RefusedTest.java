import java.util.ArrayList;
import java.util.List;

/**
 * "Calls that are refused answer, the first of these that fits ... They change nothing.": every call is refused in each of
 * its ways, and where several fit, the first one is due. After each, all that can be asked answers as on a twin on
 * which the refused call was not made.
 */
public final class RefusedTest {
    private static final int MOST_CALLS = 512;
    private static final Checks CHECKS = new Checks();

    private final List<Call> before = new ArrayList<>();
    private final List<Call> after = new ArrayList<>();
    private final List<Integer> due = new ArrayList<>();

    public static void main(String[] args) {
        RefusedTest usual = new RefusedTest();
        usual.setUpUsual();
        usual.asksAll(7, 12, 7);
        usual.refusals("while there is room", usualRefusals());
        RefusedTest full = new RefusedTest();
        full.setUpFull("1~1:2|3>4&!(5|!(6))|7&8&9|10&11&12|13&14");
        full.asksAll(8, 24, 10);
        full.refusals("while all is full, without a fault", fullRefusals());
        RefusedTest faulty = new RefusedTest();
        faulty.setUpFull("1~1:2|3>4&!(5|!(6))|7&8&9|10&11&12|13&1&");
        faulty.asksAll(8, 24, 10);
        faulty.refusals("while all is full, with a fault", fullRefusals());
        CHECKS.end();
    }

    private void by(String... calls) {
        for (String call : calls) {
            before.add(new Call(call));
        }
    }

    private void say(String signs) {
        for (int i = 0; i < signs.length(); i++) {
            by("say(" + (int) signs.charAt(i) + ")");
        }
    }

    /** Pages 0 and 1 are one sheet; 0 and 3 have pieces that are sent or filed; the signs have a fault. */
    private void setUpUsual() {
        by("page(3, 5)", "page(3, 5)", "page(3, 6)", "page(4, 5)", "page(3, 5)", "page(3, 5)", "sides(0, 1)");
        int[][] words = {{0, 1, 2, 3, 4, 5}, {1, 1, 2, 3, 4, 9}, {2, 1, 2, 3, 4, 5}, {3, 1, 2, 9, 9, 9}, {4, 1, 7, 1, 7, 1}};
        for (int[] row : words) {
            for (int i = 1; i < row.length; i++) {
                by("write(" + row[0] + ", " + (4 + i) + ", " + row[i] + ")");
            }
        }
        for (int page = 0; page < 5; page++) {
            by("piece(" + page + ", 0, 0, 5, 9)", "piece(" + page + ", 0, 1, 4, 7)");
        }
        String[] rules = {"1", "1&2|9", "!9", "3~1:4", "99", "1>1"};
        for (int i = 0; i < rules.length; i++) {
            say(rules[i]);
            by("order(" + i + ", 1023, 0, 99, " + (i == 0 ? 2 : 20) + ", " + (i % 2 == 1) + ")");
        }
        by("send(0, 0)", "send(0, 2)", "send(6, 1)", "file(6, 3)", "file(2, 12)", "file(4, 5)");
        by("name(0, 1)", "name(3, 7)", "counts(0, 2, 30)", "counts(0, 9, -30)", "counts(3, 1, 100)", "set(1, 3)");
        by("find(0, 0, true)", "find(0, 1, true)", "find(1, 1, true)", "find(1, 2, true)", "find(2, 9, true)");
        by("slips(0, 3, 5)", "slips(1, 3, 4)", "slips(2, 4, 9)", "reader(0, 0, 40)", "reader(1, 1, 60)", "set(3, 7)");
        by("miss(0)", "miss(0)", "miss(5)", "set(8, 1)", "set(4, 2)");
        say("1|(2&");
    }

    /** As many pages, pieces, orders and signs as there may be. */
    private void setUpFull(String signs) {
        for (int i = 0; i < 8; i++) {
            by("page(" + i / 4 + ", 1)");
        }
        by("sides(0, 1)", "sides(4, 5)");
        for (int i = 0; i < 24; i++) {
            by("write(" + i % 8 + ", " + i + ", " + i % 5 + ")");
            by("piece(" + i % 8 + ", 0, " + i % 3 + ", 0, " + i % 10 + ")");
        }
        for (int i = 0; i < 10; i++) {
            say(i % 2 == 0 ? "!9" : "0|1");
            by("order(" + i % 6 + ", 1023, 0, 99, " + 2 * i + ", " + (i % 3 == 0) + ")");
        }
        by("send(8, 8)", "file(4, 1)", "miss(1)", "find(3, 23, true)", "find(2, 23, true)");
        say(signs);
    }

    private void ask(String call) {
        after.add(new Call(call));
    }

    /** All that can be asked; those that change something come last, and change it on the twin, too. */
    private void asksAll(int pages, int pieces, int orders) {
        for (int what = 0; what <= 18; what++) {
            ask("told(" + what + ")");
        }
        ask("fault()");
        for (int page = 0; page < pages; page++) {
            for (int what = 0; what < 160; what += what == 3 ? 97 : 1) {
                ask("ofPage(" + page + ", " + what + ")");
            }
            for (int i = -1; i <= 9; i++) {
                ask("asked(" + page + ", " + i + ")");
            }
            for (int n = 1; n <= 4; n++) {
                ask("served(" + page + ", " + n + ", 1)");
            }
        }
        asksPieces(pieces, orders);
        asksOthers(pages);
        asksBySetting(pieces);
    }

    private void asksPieces(int pieces, int orders) {
        for (int piece = 0; piece < pieces; piece++) {
            for (int what = 0; what <= 5; what++) {
                ask("about(" + piece + ", " + what + ")");
            }
            for (int i = 0; i <= 6; i++) {
                ask("word(" + piece + ", " + i + ")");
            }
            ask("clash(" + piece + ", 0)");
            ask("changes(" + piece + ", 0)");
            for (int order = 0; order < orders; order++) {
                ask("wants(" + order + ", " + piece + ", " + piece % 2 + ")");
            }
            for (int name = 0; name < 4; name++) {
                ask("likely(" + name + ", " + piece + ", 1)");
            }
        }
        for (int order = 0; order < orders; order++) {
            for (int day = 0; day < 8; day++) {
                for (int i = -1; i < 8; i += 2) {
                    ask("list(" + order + ", " + day + ", " + i + ")");
                }
            }
        }
    }

    private void asksOthers(int pages) {
        for (int a = 0; a < 4; a++) {
            for (int b = 0; b < 4; b++) {
                ask("misses(" + a + ", " + b + ", 0, 0)");
                ask("misses(" + a + ", " + b + ", 1, 1)");
            }
            for (int i = -1; i < 4; i++) {
                ask("old(" + a + ", 0, 99, " + i + ")");
            }
        }
        for (int i = -1; i < pages; i++) {
            ask("parted(31, " + i + ")");
        }
        for (int client = 0; client < 6; client++) {
            ask("bill(" + client + ", 0)");
            ask("bill(" + client + ", 1)");
        }
    }

    private void asksBySetting(int pieces) {
        for (int i = 0; i < 4; i++) {
            ask("name(" + i + ", -1)");
            ask("reader(" + i + ", 0, 50)");
            ask("reader(" + i + ", 1, 100)");
            for (int paper = 0; paper < 10; paper++) {
                ask("slips(" + i + ", " + paper + ", 0)");
            }
            for (int word = 0; word < 100; word += word == 9 ? 90 : 1) {
                ask("counts(" + i + ", " + word + ", 0)");
            }
            for (int piece = 0; piece < pieces; piece++) {
                ask("find(" + i + ", " + piece + ", false)");
            }
        }
        for (int client = 0; client < 6; client++) {
            ask("miss(" + client + ")");
        }
        ask("wipe()");
        ask("page(9, 9)");
        ask("piece(0, 0, 0, 0, 0)");
        ask("say(49)");
        ask("order(0, 1, 0, 0, 0, false)");
    }

    /** Each row: the answer that is due, then calls that are so refused. */
    private void refusals(String when, String[][] rows) {
        CHECKS.about("refused " + when);
        askTwin();
        for (String[] row : rows) {
            for (int i = 1; i < row.length; i++) {
                refuse(new Call(row[i]), Integer.parseInt(row[0]));
            }
        }
    }

    private CutBureau made() {
        CutBureau x = new CutBureau();
        for (Call call : before) {
            int got = call.on(x);
            CHECKS.dueTrue(call + " was refused with " + got, got >= 0 || got == CutBureau.NONE);
        }
        return x;
    }

    private int asksOfOne() {
        return MOST_CALLS - before.size() - 1;
    }

    private void askTwin() {
        CutBureau twin = null;
        for (int i = 0; i < after.size(); i++) {
            twin = i % asksOfOne() == 0 ? made() : twin;
            due.add(after.get(i).on(twin));
        }
    }

    private void refuse(Call refused, int want) {
        CutBureau x = null;
        for (int i = 0; i < after.size(); i++) {
            if (i % asksOfOne() == 0) {
                x = made();
                CHECKS.due(refused.toString(), refused.on(x), want);
            }
            CHECKS.due(after.get(i) + " after " + refused, after.get(i).on(x), due.get(i));
        }
    }

    private static String[][] usualRefusals() {
        return new String[][] {
            {"-2", "page(-1, 0)", "page(10, 0)", "page(0, -1)", "page(0, 100)", "page(10, 100)"},
            {"-1", "write(-1, 0, 1)", "write(6, 0, 1)", "write(6, 60, 100)", "write(MAX, 0, 1)"},
            {"-2", "write(1, -1, 1)", "write(1, 60, 1)", "write(1, 0, -2)", "write(1, 0, 100)", "write(0, 60, 1)",
                "write(0, 5, 100)"},
            {"-3", "write(0, 5, 8)", "write(0, 59, 8)", "write(0, 5, -1)", "write(1, 5, 8)", "write(2, 5, 8)",
                "write(3, 5, 8)"},
            {"-1", "sides(0, 6)", "sides(6, 0)", "sides(-1, 0)", "sides(0, 0)", "sides(4, 4)", "sides(MIN, MAX)"},
            {"-3", "sides(0, 2)", "sides(0, 3)", "sides(2, 4)", "sides(3, 4)"},
            {"-5", "sides(0, 1)", "sides(1, 0)", "sides(4, 0)", "sides(1, 5)"},
            {"-1", "ofPage(6, 0)", "ofPage(-1, 4)"},
            {"-2", "ofPage(0, 4)", "ofPage(0, -1)", "ofPage(0, 99)", "ofPage(0, 160)"},
            {"-1", "piece(6, 0, 0, 0, 0)", "piece(-1, 1, 0, 0, 0)"},
            {"-2", "piece(0, 1, 0, 0, 0)", "piece(0, 0, 0, 1, 0)", "piece(0, -1, 0, 0, 0)", "piece(0, 0, 6, 0, 0)",
                "piece(0, 0, 0, -1, 0)", "piece(0, 0, 0, 0, 10)"},
            {"-1", "about(10, 0)", "about(-1, 6)", "word(10, 0)", "word(-1, 0)", "clash(10, 0)", "clash(0, -1)"},
            {"-2", "about(0, 6)", "about(0, -1)", "say(32)", "say(127)", "say(-1)", "say(MAX)"},
            {"-2", "order(-1, 1, 0, 0, 0, true)", "order(6, 1, 0, 0, 0, true)", "order(0, -1, 0, 0, 0, true)",
                "order(0, 1024, 0, 0, 0, true)", "order(0, 1, -1, 0, 0, true)", "order(0, 1, 0, 100, 0, true)",
                "order(0, 1, 1, 0, 0, true)", "order(0, 1, 0, 0, -1, true)", "order(0, 1, 0, 0, 21, true)"},
            {"-5", "order(0, 1, 0, 0, 0, true)", "order(5, 1023, 0, 99, 20, false)"},
            {"-1", "wants(6, 0, 0)", "wants(-1, 0, 0)", "wants(0, 10, 0)", "wants(0, -1, 2)", "changes(10, 0)",
                "changes(0, -1)"},
            {"-2", "wants(0, 0, 2)", "wants(0, 0, -1)", "set(-1, 1)", "set(9, 1)"},
            {"-2", "set(0, -1)", "set(0, 101)", "set(1, -1)", "set(1, 21)", "set(2, 0)", "set(2, 1001)", "set(3, -1)",
                "set(3, 1001)", "set(4, 0)", "set(4, 101)", "set(5, -1)", "set(5, 1001)", "set(6, -1)", "set(6, 1001)",
                "set(7, -1)", "set(7, 1001)", "set(8, -1)", "set(8, 1001)"},
            {"-1", "list(6, 0, -1)", "list(-1, 100, -1)"},
            {"-2", "list(0, -1, -1)", "list(0, 100, 0)"},
            {"-1", "name(-1, 5)", "name(4, 5)", "name(4, 100)", "counts(-1, 1, 1)", "counts(4, 1, 1)",
                "counts(4, 100, 101)"},
            {"-2", "name(0, -2)", "name(0, 100)", "counts(0, -1, 1)", "counts(0, 100, 1)", "counts(0, 1, -101)",
                "counts(0, 1, 101)"},
            {"-1", "likely(-1, 0, 0)", "likely(4, 0, 3)", "likely(0, 10, 0)", "likely(0, -1, -1)"},
            {"-2", "likely(0, 0, 3)", "likely(0, 0, -1)"},
            {"-1", "asked(6, -1)", "asked(-1, 0)", "served(6, 1, 0)", "served(-1, 0, 2)"},
            {"-2", "served(0, 0, 0)", "served(0, 5, 0)", "served(0, 1, -1)", "served(0, 1, 2)"},
            {"-1", "find(-1, 0, true)", "find(4, 0, true)", "find(0, 10, true)", "find(0, -1, true)",
                "find(0, 32, false)"},
            {"-1", "misses(0, 0, 0, 0)", "misses(4, 0, 0, 0)", "misses(0, -1, 2, 2)"},
            {"-2", "misses(0, 1, 2, 0)", "misses(0, 1, -1, 0)", "misses(0, 1, 0, 2)", "misses(0, 1, 0, -1)"},
            {"-1", "reader(-1, 0, 1)", "reader(4, 0, 1)", "reader(4, 2, 0)", "slips(-1, 3, 1)", "slips(4, 3, 1)",
                "slips(4, 10, 101)"},
            {"-2", "reader(0, -1, 1)", "reader(0, 2, 1)", "reader(0, 0, 0)", "reader(0, 0, 101)", "reader(0, 1, -1)",
                "reader(0, 1, 1001)"},
            {"-2", "slips(0, -1, 1)", "slips(0, 10, 1)", "slips(0, 3, -1)", "slips(0, 3, 101)"},
            {"-2", "parted(-1, -1)", "parted(64, -1)", "parted(64, 0)", "parted(MIN, 9)"},
            {"-1", "send(-1, 0)", "send(10, 0)", "send(0, -1)", "send(0, 6)", "send(10, 4)"},
            {"-3", "send(0, 4)", "send(2, 0)", "send(2, 1)", "send(6, 0)"},
            {"-5", "send(0, 0)", "send(0, 2)", "send(6, 1)"},
            {"-1", "miss(-1)", "miss(6)", "bill(-1, 0)", "bill(6, 2)", "file(-1, 1)", "file(10, 1)", "file(10, 16)"},
            {"-2", "bill(0, -1)", "bill(0, 2)", "file(0, -1)", "file(0, 16)", "file(6, 16)"},
            {"-1", "old(-1, 0, 0, 0)", "old(4, -1, 100, 0)"},
            {"-2", "old(0, -1, 0, 0)", "old(0, 0, 100, 0)", "old(0, 100, 0, -1)", "told(-1)", "told(6)", "told(9)",
                "told(19)"}};
    }

    private static String[][] fullRefusals() {
        return new String[][] {
            {"-2", "page(10, 0)", "page(-1, 0)", "page(0, 100)"},
            {"-4", "page(0, 0)", "page(9, 99)"},
            {"-1", "piece(8, 0, 0, 0, 0)", "piece(8, 1, 0, 0, 0)", "piece(-1, 0, 6, 0, 0)"},
            {"-2", "piece(0, 1, 0, 0, 0)", "piece(0, 0, 6, 0, 0)", "piece(0, 0, 0, 0, 10)"},
            {"-4", "piece(0, 0, 0, 0, 0)", "piece(7, 0, 5, 0, 9)"},
            {"-2", "say(32)", "say(127)"},
            {"-4", "say(33)", "say(49)", "say(126)"},
            {"-2", "order(6, 1, 0, 0, 0, true)", "order(0, 1024, 0, 0, 0, true)", "order(0, 1, 1, 0, 0, true)",
                "order(0, 1, 0, 0, 21, true)"},
            {"-4", "order(0, 1, 0, 0, 0, true)", "order(5, 1023, 0, 99, 20, false)"},
            {"-1", "write(8, 0, 0)", "sides(0, 8)", "sides(7, 7)", "send(24, 0)", "send(0, 10)", "file(24, 0)",
                "find(0, 24, true)"},
            {"-3", "write(0, 0, 9)", "write(0, 59, -1)", "write(4, 0, 9)", "sides(3, 4)", "sides(0, 4)", "send(8, 2)"},
            {"-5", "sides(0, 1)", "sides(0, 2)", "sides(3, 1)", "sides(6, 5)", "send(8, 8)"},
            {"-2", "parted(256, -1)", "parted(-1, -1)", "file(23, 16)", "file(23, -1)"}};
    }
}
