/** Promises 10 to 14: say, wipe, fault, order, wants. */
public final class OrdersTest {
    private static final Checks CHECKS = new Checks();

    public static void main(String[] args) {
        say();
        wipe();
        fault();
        order();
        wants();
        rules();
        CHECKS.end();
    }

    private static void say() {
        CHECKS.about("promise 10");
        CutBureau x = new CutBureau();
        for (int sign : new int[] {32, 127, 0, -1, Integer.MAX_VALUE, Integer.MIN_VALUE}) {
            CHECKS.due("say(" + sign + ")", x.say(sign), -2);
        }
        CHECKS.due("say(33)", x.say(33), 1);
        CHECKS.due("say(126)", x.say(126), 2);
        for (int i = 3; i <= 40; i++) {
            CHECKS.due("say(65)", x.say(65), i);
        }
        CHECKS.due("say(65) the 41st", x.say(65), -4);
        CHECKS.due("say(32) the 41st", x.say(32), -2);
        CHECKS.due("told(3)", x.told(3), 40);
    }

    private static void wipe() {
        CHECKS.about("promise 11");
        CutBureau x = new CutBureau();
        CHECKS.due("wipe()", x.wipe(), 0);
        Checks.say(x, "12&");
        CHECKS.due("wipe()", x.wipe(), 3);
        CHECKS.due("told(3)", x.told(3), 0);
        CHECKS.due("say(49)", x.say(49), 1);
        CHECKS.due("fault()", x.fault(), -6);
    }

    private static void fault() {
        CHECKS.about("promise 12");
        CutBureau x = new CutBureau();
        String[] right = {"0", "99", "00", "1|2", "1&2", "!1", "!!!1", "(1)", "((1))", "1~0:1", "12~9:34", "1>0", "12>9",
            "!(1|2)&3", "(1|2)&(3|!4)|5", "((((((((1))))))))", "(1)&((((((((2))))))))", "1~2:3&4", "1>2|3", "!1~2:3",
            "!!!!!!!!!!!!!!!!!!!!!!!!!!!!!!!!!!!!!!!1"};
        for (String rule : right) {
            CHECKS.due("fault of " + rule, Checks.faultOf(x, rule), -6);
        }
        String[] wrong = {"a", "|1", "&1", "~", ">", ":", ")", "!", "!)", "!|", "1!", "1(", "1)", "1:2", "123", "1~", "1~a",
            "1~2", "1~23", "1~2~", "1~2:", "1~2:a", "1~2:345", "1~2:3>4", "1~2:3~4", "1>", "1>a", "1>23", "1>2>3", "1>2~3",
            "1||2", "1&&2", "1|", "1&", "1|&", "1&)", "()", "(1", "(1|", "(1))", "((1)", "(1)2", "(1)(2)", "(1)!2", "(1)~2:3",
            "(1)>2", "(((((((((1", "!(((((((((", "1%", "12~3:45&", "(1|2)|)", ""};
        int[] places = {0, 0, 0, 0, 0, 0, 0, 1, 1, 1, 1, 1, 1, 1, 2, 2, 2, 3, 3, 3, 4, 4, 6, 5, 5, 2, 2, 3, 3, 3, 2, 2, 2, 2,
            2, 2, 1, 2, 3, 3, 4, 3, 3, 3, 3, 3, 8, 9, 1, 8, 6, 0};
        CHECKS.due("the number of wrong texts", wrong.length, places.length);
        for (int i = 0; i < wrong.length && i < places.length; i++) {
            CHECKS.due("fault of " + wrong[i], Checks.faultOf(x, wrong[i]), places[i]);
        }
    }

    private static void order() {
        CHECKS.about("promise 13");
        CutBureau x = new CutBureau();
        CHECKS.due("order without signs", x.order(0, 1, 0, 0, 0, true), -5);
        Checks.say(x, "1|");
        CHECKS.due("order with a fault", x.order(0, 1, 0, 0, 0, true), -5);
        CHECKS.due("told(3)", x.told(3), 2);
        x.say('2');
        int[][] outside = {{-1, 1, 0, 0, 0}, {6, 1, 0, 0, 0}, {0, -1, 0, 0, 0}, {0, 1024, 0, 0, 0}, {0, 1, -1, 0, 0},
            {0, 1, 0, 100, 0}, {0, 1, 5, 4, 0}, {0, 1, 0, 0, -1}, {0, 1, 0, 0, 21}};
        for (int[] o : outside) {
            CHECKS.due("order" + java.util.Arrays.toString(o), x.order(o[0], o[1], o[2], o[3], o[4], false), -2);
        }
        CHECKS.due("told(2)", x.told(2), 0);
        CHECKS.due("order(5, 1023, 0, 99, 20, true)", x.order(5, 1023, 0, 99, 20, true), 0);
        CHECKS.due("told(3)", x.told(3), 0);
        CHECKS.due("fault()", x.fault(), 0);
        for (int i = 1; i < 10; i++) {
            x.say('7');
            CHECKS.due("order(0, 0, 3, 3, 0, false)", x.order(0, 0, 3, 3, 0, false), i);
        }
        CHECKS.due("the 11th order without signs", x.order(0, 0, 3, 3, 0, false), -4);
        x.say('7');
        CHECKS.due("the 11th order", x.order(0, 0, 3, 3, 0, false), -4);
        CHECKS.due("the 11th order, outside", x.order(6, 0, 3, 3, 0, false), -2);
        CHECKS.due("told(3)", x.told(3), 1);
        CHECKS.due("told(2)", x.told(2), 10);
        x.page(0, 0);
        x.piece(0, 0, 0, 0, 0);
        CHECKS.due("wants(10, 0, 0), of ten", x.wants(10, 0, 0), -1);
        CHECKS.due("list(10, 0, 0), of ten", x.list(10, 0, 0), -1);
    }

    private static void wants() {
        CHECKS.about("promise 14");
        CutBureau x = new CutBureau();
        Checks.say(x, "1");
        x.order(0, 1 << 4 | 1 << 9, 10, 20, 0, true);
        int[][] pages = {{4, 10}, {9, 20}, {4, 9}, {4, 21}, {5, 15}};
        int[] due = {1, 1, 0, 0, 0};
        for (int i = 0; i < pages.length; i++) {
            x.page(pages[i][0], pages[i][1]);
            x.write(i, 0, 1);
            x.piece(i, 0, 0, 0, 0);
            CHECKS.due("wants(0, " + i + ", 0)", x.wants(0, i, 0), due[i]);
            CHECKS.due("wants(0, " + i + ", 1)", x.wants(0, i, 1), 1);
        }
        x.write(0, 0, 2);
        CHECKS.due("wants(0, 0, 0) without the word", x.wants(0, 0, 0), 0);
        CHECKS.due("wants(0, 0, 1) without the word", x.wants(0, 0, 1), 0);
        CHECKS.due("wants(1, 0, 0)", x.wants(1, 0, 0), -1);
        CHECKS.due("wants(-1, 0, 2)", x.wants(-1, 0, 2), -1);
        CHECKS.due("wants(0, 5, 0)", x.wants(0, 5, 0), -1);
        CHECKS.due("wants(0, 0, 2)", x.wants(0, 0, 2), -2);
        CHECKS.due("wants(0, 0, -1)", x.wants(0, 0, -1), -2);
    }

    /** The piece's words: 1 2 3 1 12 5 1 20; piece 1 has none. */
    private static void rules() {
        CHECKS.about("promise 14, rules");
        String[] so = {"1", "01", "12", "1&2", "9|2", "!9", "!!1", "1>2", "2>0", "!1>3", "9>0|5>0", "1~1:2", "2~1:1", "2~2:1",
            "1~3:1", "3~3:5", "5~3:3", "12~1:05", "!1~2:9", "(9|1)&(9|3)", "9&9|1", "1|9&9", "!(9&1)", "!(1&!2)", "!!(1|9)",
            "((9)|((1)))", "!9&!8&(7|!(6|!5))", "1~9:1", "1|(9|8)", "9|(1|8)|7", "!(9|8)&!(7&1)", "20>0", "20~1:1", "1~1:20",
            "12~2:1&20"};
        String[] not = {"9", "10", "1&9", "!1", "!!9", "1>3", "2>1", "9>0", "1~0:1", "1~0:2", "1~2:1", "2~9:2", "3~2:5",
            "1~9:9", "!1~1:2", "(9|1)&(9|8)", "1&9|9", "9|1&9", "!(1|9)", "!(9|!9)", "!1&1", "(1|2)&!(1|2)", "12~1:5&!1",
            "(1|9)&(9|8)", "(1|9)&((1|9)&(9|8))", "12>1", "12~0:5", "12~1:3", "20>1", "20~9:2&9", "20~1:5", "1~1:2&9", "3>1&1"};
        CutBureau x = new CutBureau();
        int made = 10;
        for (int i = 0; i < so.length + not.length; i++) {
            if (made == 10) {
                x = new CutBureau();
                made = 0;
                x.page(0, 0);
                Checks.write(x, 0, 0, 1, 2, 3);
                Checks.write(x, 0, 8, 1, 12, 5);
                Checks.write(x, 0, 39, 1, 20);
                x.piece(0, 0, 5, 0, 9);
                x.piece(0, 5, 5, 0, 9);
            }
            String rule = i < so.length ? so[i] : not[i - so.length];
            int order = Checks.order(x, rule, false);
            made++;
            CHECKS.due("wants by " + rule, x.wants(order, 0, 1), i < so.length ? 1 : 0);
            if (!rule.contains("!")) {
                CHECKS.due("wants of no words by " + rule, x.wants(order, 1, 1), 0);
            }
        }
        CutBureau y = new CutBureau();
        y.page(0, 0);
        y.piece(0, 0, 5, 0, 9);
        CHECKS.due("an order for no word", Checks.order(y, "!9", false), 0);
        CHECKS.due("wants of a piece without words by !9", y.wants(0, 0, 0), 1);
    }
}
