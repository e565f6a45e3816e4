/** The boundary cases of section 2 and of promises 10 to 14, each sentence of the document by itself. */
public final class OrdersEdgesTest {
    private static final Checks CHECKS = new Checks();

    public static void main(String[] args) {
        signs40();
        codes();
        boths();
        items();
        kindsOfItem();
        nearness();
        counts();
        digitsOfWords();
        brackets8();
        moreMustCome();
        firstFault();
        wordIsSo();
        nearIsSo();
        nearOfOneWord();
        nearNever();
        farthestNear();
        nearAtTheEnd();
        moreThanIsSo();
        bracketsAndTurns();
        bracketsByThemselves();
        turnsOneItem();
        twoDigitsWithMore();
        orders10();
        clients();
        papers();
        days();
        most();
        wantsAsTold();
        say();
        wipe();
        fault();
        orderTakesSigns();
        orderOutside();
        orderRefused();
        wants();
        CHECKS.end();
    }

    private static Run run(String sentence) {
        return new Run(CHECKS, sentence);
    }

    private static void signs40() {
        Run x = run("RULES are texts of up to 40 signs");
        for (int i = 1; i <= 40; i++) {
            x.due(i, "say(" + (i == 40 ? '1' + 0 : '!' + 0) + ")");
        }
        x.due(-4, "say(49)", "say(33)").due(40, "told(3)").due(-6, "fault()").due(0, "order(0, 1, 0, 0, 0, false)");
        x.due(0, "told(3)").due(1, "say(49)");
        x.by("page(0, 0)", "piece(0, 0, 0, 0, 0)").due(1, "wants(0, 0, 1)").by("write(0, 0, 1)")
                .due(0, "wants(0, 0, 1)");
    }

    private static void codes() {
        Run x = run("(codes 33 to 126)");
        x.due(-2, "say(32)", "say(127)", "say(0)", "say(-1)", "say(256)", "say(305)", "say(MIN)", "say(MAX)");
        x.due(0, "told(3)").due(1, "say(33)").due(2, "say(126)").by("wipe()");
        for (int code = 33; code <= 126; code++) {
            x.due(1, "say(" + code + ")");
            boolean starts = code == '!' || code == '(';
            boolean digit = code >= '0' && code <= '9';
            x.due(digit ? -6 : starts ? 1 : 0, "fault()").by("wipe()");
        }
    }

    private static void boths() {
        Run x = run("one or more BOTHS with a | between two");
        x.fault(-6, "1").fault(-6, "1|2").fault(-6, "1|2|3|4|5|6|7|8|9|0|1|2|3|4|5|6|7|8|9|0");
        x.fault(0, "").fault(0, "|").fault(2, "1|").fault(2, "1||2").fault(0, "|1").fault(1, "(|1)").fault(3, "(1|)");
        x.fault(3, "(1)2").fault(3, "(1)(2)");
    }

    private static void items() {
        Run x = run("a BOTH: one or more ITEMS with a & between two");
        x.fault(-6, "1&2").fault(-6, "1&2&3&4&5&6&7&8&9&0&1&2&3&4&5&6&7&8&9&0").fault(-6, "1&2|3&4");
        x.fault(0, "&").fault(2, "1&").fault(2, "1&&2").fault(0, "&1").fault(2, "1&|2").fault(2, "1|&2");
        x.fault(1, "(&1)").fault(3, "(1&)");
    }

    private static void kindsOfItem() {
        Run x = run("an ITEM: ! ITEM, or ( RULE ), or a WORD");
        x.fault(-6, "!1").fault(-6, "!!1").fault(-6, "!(1)").fault(-6, "(!1)").fault(-6, "((1))")
                .fault(-6, "(1|2)&!(3)");
        x.fault(1, "!").fault(1, "!|").fault(1, "!&").fault(1, "!)").fault(1, "!~").fault(1, "1!").fault(1, "1(");
        x.fault(1, "()").fault(1, "1)").fault(3, "(1))").fault(2, "(1").fault(3, "(1)!").fault(0, "a").fault(0, "~");
        x.fault(0, ")").fault(0, ":").fault(0, ">");
    }

    private static void nearness() {
        Run x = run("and then perhaps a ~, a digit d, a : and another WORD");
        x.fault(-6, "1~0:2").fault(-6, "1~9:2").fault(-6, "12~9:34").fault(-6, "1~1:1");
        x.fault(2, "1~").fault(3, "1~1").fault(4, "1~1:").fault(2, "1~a").fault(2, "1~:").fault(3, "1~10:2")
                .fault(3, "1~1&2");
        x.fault(4, "1~1:a").fault(4, "1~1:&").fault(4, "1~1:(2)").fault(4, "1~1:!2").fault(5, "1~1:2~1:3")
                .fault(5, "1~1:2>3");
        x.fault(5, "1~1:2:3").fault(3, "(1)~1:2").fault(3, "1~1~").fault(1, "1:2");
    }

    private static void counts() {
        Run x = run("or a > and a digit n.");
        x.fault(-6, "1>0").fault(-6, "1>9").fault(-6, "12>9").fault(-6, "1>2&3>4").fault(-6, "(1>2)");
        x.fault(2, "1>").fault(2, "1>a").fault(3, "1>10").fault(3, "1>1>2").fault(3, "1>1~2:3").fault(3, "(1)>1")
                .fault(2, "1>>");
        x.fault(2, "1>&").fault(2, "1>)");
    }

    private static void digitsOfWords() {
        Run x = run("A WORD, as a WORD's number, has 1 or 2 digits.");
        x.fault(-6, "0").fault(-6, "9").fault(-6, "00").fault(-6, "99").fault(2, "000").fault(2, "100")
                .fault(3, "!123");
        x.fault(-6, "1~1:0").fault(-6, "1~1:99").fault(6, "1~1:100").fault(7, "12~1:345");
        x.by("page(0, 0)").words(0, 0, 7, 0, 99, 10).by("piece(0, 0, 0, 0, 9)");
        x.so(1, 0, "07", 0).so(1, 1, "7", 0).so(1, 2, "00", 0).so(1, 3, "0", 0).so(1, 4, "99", 0).so(0, 5, "70", 0);
        x.so(0, 6, "9", 0).so(0, 7, "1", 0).so(1, 8, "07~1:00", 0).so(0, 9, "01", 0);
    }

    private static void brackets8() {
        Run x = run("(a ( not within 8 others)");
        x.fault(-6, "((((((((1))))))))").fault(8, "(((((((((1)))))))))").fault(8, "(((((((((").fault(8, "((((((((");
        x.fault(9, "!(((((((((1").fault(9, "((((((((!(1").fault(-6, "((((((((!1))))))))");
        x.fault(-6, "(((((((1)&(2)))))))").fault(-6, "((((((((1)))))))&(2))").fault(10, "((((((((1&(2")
                .fault(13, "((((((((1)&(2");
        x.fault(14, "(((((((1|(2)&((3").fault(-6, "((((((((1))))))))|((((((((2))))))))");
    }

    private static void moreMustCome() {
        Run x = run("the number of signs, if more must come.");
        x.fault(0, "").fault(1, "!").fault(1, "(").fault(2, "(1").fault(2, "1|").fault(2, "1&").fault(2, "1~")
                .fault(3, "1~1");
        x.fault(4, "1~1:").fault(2, "1>").fault(3, "(12").fault(6, "(1~1:2").fault(4, "(1>1").fault(4, "((1)");
        x.fault(40, "!!!!!!!!!!!!!!!!!!!!!!!!!!!!!!!!!!!!!!!!").fault(40, "1&2&3&4&5&6&7&8&9&0&1&2&3&4&5&6&7&8&9&0&");
        x.fault(40, "(1&2&3&4&5&6&7&8&9&0&1&2&3&4&5&6&7&8&9&0");
    }

    private static void firstFault() {
        Run x = run("THE FAULT: the place (from 0 on) of the first sign that can not stand there");
        x.fault(0, "a").fault(0, "aa").fault(1, "1a").fault(1, "1a)").fault(1, "!|a|").fault(2, "1|)(((((((((((");
        x.fault(39, "!!!!!!!!!!!!!!!!!!!!!!!!!!!!!!!!!!!!!!!)").fault(39, "!!!!!!!!!!!!!!!!!!!!!!!!!!!!!!!!!!!!!!1!");
    }

    private static void wordIsSo() {
        Run x = run("a WORD is so, if it is one of its WORDS");
        x.by("page(0, 0)").words(0, 11, 1, 2, 3, 4).by("piece(0, 1, 1, 2, 3)", "piece(0, 2, 5, 0, 9)");
        x.so(0, 0, "1", 0).so(1, 1, "2", 0).so(1, 2, "3", 0).so(0, 3, "4", 0).so(0, 4, "0", 0).so(0, 5, "2", 1)
                .so(1, 6, "!2", 1);
        x.by("write(0, 12, -1)").due(0, "wants(1, 0, 1)").by("write(0, 20, 2)").due(1, "wants(1, 1, 1)");
    }

    private static void nearIsSo() {
        Run x = run("with ~, if it stands d or fewer WORDS from that other one (in either order, not one and the same");
        x.by("page(0, 0)").words(0, 0, 1, 2).words(0, 9, 3).words(0, 50, 4).by("piece(0, 0, 5, 0, 9)");
        x.so(1, 0, "1~1:2", 0).so(1, 1, "2~1:1", 0).so(0, 2, "1~1:3", 0).so(1, 3, "1~2:3", 0).so(1, 4, "3~2:1", 0);
        x.so(0, 5, "4~2:1", 0).so(1, 6, "4~3:1", 0).so(1, 7, "1~9:4", 0).so(0, 8, "1~9:5", 0).so(0, 9, "5~9:1", 0);
    }

    private static void nearOfOneWord() {
        Run x = run("not one and the same");
        x.by("page(0, 0)").words(0, 0, 1, 2, 2, 1).by("piece(0, 0, 0, 0, 9)", "piece(0, 0, 0, 0, 1)");
        x.so(0, 0, "1~9:1", 1).so(0, 1, "2~9:2", 1).so(0, 2, "1~2:1", 0).so(1, 3, "1~3:1", 0).so(1, 4, "2~1:2", 0);
        x.so(0, 5, "3~9:3", 0);
    }

    private static void nearNever() {
        Run x = run("d 0: never");
        x.by("page(0, 0)").words(0, 0, 1, 1, 2).by("piece(0, 0, 0, 0, 9)");
        x.so(0, 0, "1~0:1", 0).so(0, 1, "1~0:2", 0).so(0, 2, "2~0:1", 0).so(1, 3, "1~1:1", 0).so(1, 4, "1~1:2", 0);
        x.so(1, 5, "!1~0:1", 0);
    }

    private static void farthestNear() {
        Run x = run("with ~, if it stands d or fewer WORDS from that other one");
        x.by("page(0, 0)").words(0, 0, 1).fill(0, 1, 8, 5).words(0, 9, 2, 3).by("piece(0, 0, 5, 0, 9)");
        x.so(1, 0, "1~9:2", 0).so(0, 1, "1~8:2", 0).so(0, 2, "1~9:3", 0).so(1, 3, "2~9:1", 0).so(0, 4, "3~9:1", 0);
        x.by("write(0, 4, -1)").due(1, "wants(1, 0, 1)", "wants(2, 0, 1)", "wants(4, 0, 1)");
    }

    /** Words that are gone count no more; the last of 60 words has none behind it. */
    private static void nearAtTheEnd() {
        Run x = run("it stands d or fewer WORDS from that other one (in either order");
        x.by("page(0, 0)", "piece(0, 0, 5, 0, 9)").words(0, 0, 1, 2).so(1, 0, "1~1:2", 0).so(1, 1, "2~9:1", 0);
        x.by("write(0, 1, -1)").due(0, "wants(0, 0, 1)", "wants(1, 0, 1)").by("write(0, 1, 2)", "write(0, 0, -1)");
        x.due(0, "wants(0, 0, 1)", "wants(1, 0, 1)").fill(0, 0, 60, 1).due(0, "wants(0, 0, 1)", "wants(1, 0, 1)");
        x.by("write(0, 59, 2)").due(1, "wants(0, 0, 1)", "wants(1, 0, 1)").by("write(0, 59, 1)", "write(0, 0, 2)");
        x.due(1, "wants(0, 0, 1)", "wants(1, 0, 1)");
    }

    private static void moreThanIsSo() {
        Run x = run("with >, if it is there more than n times.");
        x.by("page(0, 0)", "piece(0, 0, 5, 0, 9)").fill(0, 0, 9, 1);
        x.so(0, 0, "1>9", 0).so(1, 1, "1>8", 0).so(0, 2, "2>0", 0).so(1, 3, "1>0", 0);
        x.by("write(0, 59, 1)").due(1, "wants(0, 0, 1)").by("write(0, 58, 2)").due(1, "wants(2, 0, 1)");
        x.so(0, 4, "2>1", 0).by("write(0, 57, 2)").due(1, "wants(4, 0, 1)");
    }

    private static void bracketsAndTurns() {
        Run x = run("! ITEM, or ( RULE )");
        x.by("page(0, 0)", "write(0, 0, 1)", "piece(0, 0, 0, 0, 0)");
        x.so(1, 0, "((((((((1))))))))", 0).so(0, 1, "!((((((((1))))))))", 0).so(1, 2, "((((((((!2))))))))", 0);
        x.so(0, 3, "!(!(!(!(!(!(!(!(!1))))))))", 0).so(1, 4, "!(!(!(!(!(!(!(!(1))))))))", 0);
        x.so(0, 5, "!!!!!!!!!!!!!!!!!!!!!!!!!!!!!!!!!!!!!!!1", 0)
                .so(1, 6, "!!!!!!!!!!!!!!!!!!!!!!!!!!!!!!!!!!!!!!1", 0);
        x.so(1, 7, "2|2|2|2|2|2|2|2|2|2|2|2|2|2|2|2|2|2|2|1", 0).so(0, 8, "1&1&1&1&1&1&1&1&1&1&1&1&1&1&1&1&1&1&1&2", 0);
        x.so(1, 9, "1|2&2", 0);
    }

    private static void bracketsByThemselves() {
        Run x = run("or ( RULE )");
        x.by("page(0, 0)", "write(0, 0, 1)", "piece(0, 0, 0, 0, 0)");
        x.so(0, 0, "(1|2)&(2|3)", 0).so(0, 1, "2&(2|1)", 0).so(1, 2, "(2|1)&1", 0).so(0, 3, "(1|(1|2))&(2|(2|3))", 0);
        x.so(1, 4, "1|(2&3)", 0).so(0, 5, "(2&(1|1))|2", 0).so(1, 6, "((2|1)&(1))&1", 0).so(1, 7, "(1|2&(3))", 0);
        x.so(0, 8, "((2)|3)&((1)|2)", 0).so(1, 9, "2|((((((((1|2))))))))&1", 0);
    }

    private static void turnsOneItem() {
        Run x = run("an ITEM: ! ITEM");
        x.by("page(0, 0)", "write(0, 0, 1)", "piece(0, 0, 0, 0, 0)");
        x.so(1, 0, "!2&1", 0).so(0, 1, "!2&2", 0).so(1, 2, "!2|2", 0).so(1, 3, "!(2)&1", 0).so(1, 4, "!(2&1)&1", 0);
        x.so(0, 5, "!(1|2)|2", 0).so(1, 6, "(!2)&1", 0).so(1, 7, "!02", 0).so(0, 8, "!01", 0).so(1, 9, "!(!1)&!(2)", 0);
    }

    private static void twoDigitsWithMore() {
        Run x = run("A WORD, as a WORD's number, has 1 or 2 digits");
        x.by("page(0, 0)").words(0, 0, 12, 34, 2, 12, 10).by("piece(0, 0, 0, 0, 9)");
        x.so(1, 0, "12~1:34", 0).so(1, 1, "34~1:02", 0).so(1, 2, "12>1", 0).so(0, 3, "12>2", 0).so(0, 4, "10>1", 0);
        x.so(1, 5, "34~2:12", 0).so(0, 6, "10~1:2", 0).so(1, 7, "2~1:12", 0).so(0, 8, "12~2:12", 0)
                .so(1, 9, "10>0|12~3:12", 0);
    }

    private static void orders10() {
        Run x = run("ORDERS, 10 at most, numbered from 0 on");
        x.by("page(0, 0)", "piece(0, 0, 0, 0, 0)");
        for (int i = 0; i < 10; i++) {
            x.due(-1, "wants(" + i + ", 0, 0)").say("1").due(i, "order(0, 1, 0, 0, 0, false)").due(i + 1, "told(2)");
            x.due(0, "wants(" + i + ", 0, 0)");
        }
        x.say("1").due(-4, "order(0, 1, 0, 0, 0, false)", "order(5, 1023, 0, 99, 20, true)").due(10, "told(2)");
        x.due(-1, "wants(10, 0, 0)", "list(10, 0, -1)", "send(0, 10)");
    }

    private static void clients() {
        Run x = run("of a CLIENT (0 to 5), a RULE");
        x.say("1").due(-2, "order(-1, 1, 0, 0, 0, false)", "order(6, 1, 0, 0, 0, false)",
                "order(MIN, 1, 0, 0, 0, false)");
        x.due(-2, "order(MAX, 1, 0, 0, 0, false)").due(0, "order(0, 1, 0, 0, 0, false)").say("1");
        x.due(1, "order(5, 1, 0, 0, 0, false)").due(-1, "bill(6, 0)", "bill(-1, 0)", "miss(6)", "miss(-1)");
        x.due(0, "bill(0, 0)", "bill(5, 0)").due(1, "miss(0)", "miss(5)");
    }

    private static void papers() {
        Run x = run("PAPERS (bits 0 to 9)");
        x.by("page(0, 0)", "page(9, 0)", "page(8, 0)");
        x.by("piece(0, 0, 0, 0, 0)", "piece(1, 0, 0, 0, 0)", "piece(2, 0, 0, 0, 0)");
        x.say("!1").due(-2, "order(0, -1, 0, 0, 9, false)", "order(0, 1024, 0, 0, 9, false)");
        x.due(-2, "order(0, MIN, 0, 0, 9, false)", "order(0, MAX, 0, 0, 9, false)", "order(0, 1025, 0, 0, 9, false)");
        x.due(0, "order(0, 0, 0, 0, 9, false)").say("!1").due(1, "order(0, 1023, 0, 0, 9, false)");
        x.say("!1").due(2, "order(0, 512, 0, 0, 9, false)").say("!1").due(3, "order(0, 1, 0, 0, 9, false)");
        x.due(0, "list(0, 0, -1)", "wants(0, 0, 0)", "wants(0, 1, 0)").due(3, "list(1, 0, -1)");
        x.due(1, "list(2, 0, -1)", "list(2, 0, 0)", "wants(2, 1, 0)").due(0, "wants(2, 2, 0)", "wants(2, 0, 0)");
        x.due(1, "list(3, 0, -1)", "wants(3, 0, 0)").due(0, "list(3, 0, 0)", "wants(3, 1, 0)");
    }

    private static void days() {
        Run x = run("from a DAY till another one (both counted)");
        x.by("page(0, 4)", "page(0, 5)", "page(0, 6)", "page(0, 7)", "page(0, 8)");
        for (int page = 0; page < 5; page++) {
            x.by("piece(" + page + ", 0, 0, 0, 0)");
        }
        x.say("!1").due(0, "order(0, 1, 5, 7, 9, false)").say("!1").due(1, "order(0, 1, 6, 6, 9, false)");
        x.say("!1").due(-2, "order(0, 1, 7, 6, 9, false)", "order(0, 1, 99, 0, 9, false)")
                .due(2, "order(0, 1, 0, 99, 9, false)");
        x.due(0, "wants(0, 0, 0)", "wants(0, 4, 0)", "list(0, 4, -1)", "list(0, 8, -1)");
        x.due(1, "wants(0, 1, 0)", "wants(0, 2, 0)", "wants(0, 3, 0)", "list(0, 5, -1)", "list(0, 7, -1)");
        x.due(0, "wants(1, 1, 0)", "wants(1, 3, 0)").due(1, "wants(1, 2, 0)", "wants(2, 0, 0)", "wants(2, 4, 0)");
    }

    private static void most() {
        Run x = run("the MOST of a DAY (0 to 20), and whether ONCE.");
        x.by("page(0, 0)").by(21, "piece(0, 0, 0, 0, 0)").say("!1");
        x.due(-2, "order(0, 1, 0, 0, -1, false)", "order(0, 1, 0, 0, 21, false)", "order(0, 1, 0, 0, MIN, false)");
        x.due(-2, "order(0, 1, 0, 0, MAX, true)").due(0, "order(0, 1, 0, 0, 0, false)");
        x.say("!1").due(1, "order(0, 1, 0, 0, 20, false)").say("!1").due(2, "order(0, 1, 0, 0, 1, true)");
        x.due(0, "list(0, 0, -1)").due(-6, "list(0, 0, 0)").due(20, "list(1, 0, -1)").due(19, "list(1, 0, 19)");
        x.due(-6, "list(1, 0, 20)").due(1, "list(2, 0, -1)").due(0, "list(2, 0, 0)").due(-6, "list(2, 0, 1)");
    }

    private static void wantsAsTold() {
        Run x = run("An ORDER WANTS a PIECE, if its PAGE's PAPER and DAY are as told, and its RULE is so.");
        x.by("page(3, 5)", "write(0, 0, 1)", "piece(0, 0, 0, 0, 0)", "piece(0, 1, 1, 0, 0)");
        x.say("1").by("order(0, 8, 5, 5, 0, false)").say("1").by("order(0, 1015, 5, 5, 0, false)");
        x.say("1").by("order(0, 8, 6, 99, 0, false)").say("1").by("order(0, 8, 0, 4, 0, false)");
        x.due(1, "wants(0, 0, 0)").due(0, "wants(0, 1, 0)", "wants(1, 0, 0)", "wants(2, 0, 0)", "wants(3, 0, 0)");
        x.due(1, "wants(0, 0, 1)", "wants(1, 0, 1)", "wants(2, 0, 1)", "wants(3, 0, 1)").due(0, "wants(0, 1, 1)");
    }

    private static void say() {
        Run x = run("A sign more: how many. OUTSIDE; FULL.");
        for (int i = 1; i <= 40; i++) {
            x.due(-2, "say(32)", "say(127)").due(i, "say(65)");
        }
        x.due(-2, "say(32)", "say(127)", "say(-1)", "say(MIN)", "say(MAX)").due(-4, "say(33)", "say(126)", "say(65)");
        x.due(40, "told(3)").due(0, "fault()");
    }

    private static void wipe() {
        Run x = run("Signs go: how many there were.");
        x.due(0, "wipe()", "wipe()").say("(").due(1, "wipe()").due(0, "told(3)", "fault()").by(40, "say(49)");
        x.due(40, "wipe()").due(0, "wipe()", "told(3)").due(1, "say(49)").due(-6, "fault()");
    }

    private static void fault() {
        Run x = run("THE FAULT; NONE.");
        x.due(0, "fault()").by("say(49)").due(-6, "fault()", "fault()").by("say(50)").due(-6, "fault()");
        x.by("say(51)").due(2, "fault()").by("say(40)").due(2, "fault()").due(4, "told(3)");
    }

    private static void orderTakesSigns() {
        Run x = run("An ORDER with the signs as its RULE (they are empty then): its number.");
        x.by("page(0, 0)", "write(0, 0, 1)", "piece(0, 0, 0, 0, 0)");
        x.say("1").due(0, "order(0, 1, 0, 0, 0, false)").due(0, "told(3)", "fault()")
                .due(-5, "order(0, 1, 0, 0, 0, false)");
        x.say("2").due(1, "wants(0, 0, 1)").due(1, "order(0, 1, 0, 0, 0, false)").due(1, "wants(0, 0, 1)");
        x.due(0, "wants(1, 0, 1)").say("2|3").by("wipe()").due(1, "wants(0, 0, 1)").due(0, "wants(1, 0, 1)");
    }

    private static void orderOutside() {
        Run x = run("OUTSIDE: CLIENT, PAPERS, DAYS (from not above till), MOST; FULL; NO: there is a FAULT.");
        x.say("(");
        x.due(-2, "order(6, 1, 0, 0, 0, true)", "order(0, 1024, 0, 0, 0, true)", "order(0, 1, 1, 0, 0, true)");
        x.due(-2, "order(0, 1, 0, 100, 0, true)", "order(0, 1, -1, 0, 0, true)", "order(0, 1, 0, 0, 21, true)");
        x.due(-5, "order(0, 1, 0, 0, 0, true)", "order(5, 1023, 0, 99, 20, false)").due(1, "told(3)").due(0, "told(2)");
        x.by("wipe()").due(-5, "order(0, 1, 0, 0, 0, true)").say("1&").due(-5, "order(0, 1, 0, 0, 0, true)");
        x.say("1").due(0, "order(0, 1, 0, 0, 0, true)");
    }

    private static void orderRefused() {
        Run x = run("FULL; NO: there is a FAULT.");
        for (int i = 0; i < 10; i++) {
            x.say("1").by("order(0, 1, 0, 0, 0, true)");
        }
        x.due(-4, "order(0, 1, 0, 0, 0, true)").due(-2, "order(0, 1, 1, 0, 0, true)", "order(-1, 1, 0, 0, 0, true)");
        x.say("12").due(-4, "order(0, 1, 0, 0, 0, true)").due(2, "told(3)").say("3")
                .due(-4, "order(0, 1, 0, 0, 0, true)");
        x.due(3, "told(3)").due(2, "fault()").due(-2, "order(0, 1, 0, 0, 21, true)").due(10, "told(2)");
    }

    private static void wants() {
        Run x = run("Whether an ORDER WANTS a PIECE (what = 0), its RULE alone is so (1): 1, 0. UNKNOWN; OUTSIDE.");
        x.by("page(0, 0)", "piece(0, 0, 0, 0, 0)").say("!1").by("order(0, 2, 0, 0, 0, false)");
        x.due(0, "wants(0, 0, 0)").due(1, "wants(0, 0, 1)");
        x.due(-2, "wants(0, 0, -1)", "wants(0, 0, 2)", "wants(0, 0, MIN)", "wants(0, 0, MAX)");
        x.due(-1, "wants(1, 0, 0)", "wants(-1, 0, 0)", "wants(0, 1, 0)", "wants(0, -1, 0)", "wants(1, 1, 2)");
        x.due(-1, "wants(1, 0, 2)", "wants(0, 1, -1)", "wants(MIN, 0, 0)", "wants(0, MAX, 1)");
    }
}
