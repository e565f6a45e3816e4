import java.lang.reflect.InvocationTargetException;
import java.lang.reflect.Method;
import java.util.HashMap;
import java.util.Map;
import java.util.Random;

/** Runs of 512 calls, made up from fixed seeds, on CutBureau and on PlainBureau: every answer is the same. */
public final class RandomRunsTest {
    private static final int RUNS = 400;
    private static final int[] ODD = {-2, -1, 100, 1024, 32, 127, Integer.MIN_VALUE, Integer.MAX_VALUE, -101, 1001};

    /** Each call with what its numbers mean; often: how many times likelier than another it is. */
    private static final String[] CALLS = {
        "page paper day", "write*12 page place wordOrNone", "sides*2 page page", "ofPage*2 page ofPage",
        "piece*4 page line lineBelow column columnBelow", "about*3 piece to6", "word*2 piece to8",
        "clash*2 piece piece", "say sign", "wipe", "fault", "order*3 client papers day lateDay most once",
        "wants*3 order piece to2", "changes*2 piece piece", "set*3 setting value", "list*5 order day to6",
        "name*2 name wordOrNone", "counts*5 name word count", "likely*6 name piece to3", "asked*3 page to10",
        "served*4 page sheets to2", "find*4 reader piece once", "misses*3 reader reader to2 to2",
        "reader*2 reader to2 minutes", "slips*4 reader paper slip", "parted*3 pages to9", "send*4 piece order",
        "miss client", "bill*2 client to2", "file piece bits4", "old*2 name day lateDay to6", "told told"};

    private final Random random;
    private final CutBureau bureau = new CutBureau();
    private final PlainBureau plain = new PlainBureau();
    private final Checks checks;
    private final StringBuilder run = new StringBuilder();
    private final int papers;
    private final int days;
    private int calls = 0;
    private int last = 0;
    private final Map<String, Integer> room = new HashMap<>();
    private final double oddness;

    private static final Map<String, Method> OF_BUREAU = new HashMap<>();
    private static final Map<String, Method> OF_PLAIN = new HashMap<>();

    private RandomRunsTest(int seed, Checks checks) {
        this.random = new Random(seed);
        this.checks = checks;
        this.papers = 1 + random.nextInt(3);
        this.days = 1 + random.nextInt(3);
        this.oddness = seed % 4 == 0 ? 0.05 : 0.004;
    }

    public static void main(String[] args) {
        for (Method m : CutBureau.class.getDeclaredMethods()) {
            OF_BUREAU.put(m.getName(), m);
        }
        for (Method m : PlainBureau.class.getDeclaredMethods()) {
            if (java.lang.reflect.Modifier.isPublic(m.getModifiers())) {
                m.setAccessible(true);
                OF_PLAIN.put(m.getName(), m);
            }
        }
        Checks checks = new Checks();
        for (int seed = 0; seed < RUNS && checks.allAsDue(); seed++) {
            checks.about("seed " + seed);
            new RandomRunsTest(seed, checks).play();
        }
        checks.end();
    }

    private void play() {
        if (random.nextInt(4) > 0) {
            setUp();
        }
        while (calls < 512 && checks.allAsDue()) {
            String[] words = pick().split(" ");
            String name = words[0].replaceAll("\\*.*", "");
            Object[] numbers = new Object[words.length - 1];
            for (int i = 1; i < words.length; i++) {
                numbers[i - 1] = value(words[i]);
            }
            if (name.equals("order") && random.nextInt(8) > 0) {
                sayRule();
            }
            call(name, numbers);
        }
        if (!checks.allAsDue()) {
            System.out.println(run);
        }
    }

    /** A start that leads to doubles, clashes, long lists. */
    private void setUp() {
        int pages = 2 + random.nextInt(6);
        for (int i = 0; i < pages; i++) {
            call("page", random.nextInt(papers), random.nextInt(days));
        }
        for (int i = 0; i < 4; i++) {
            call("sides", random.nextInt(pages), random.nextInt(pages));
        }
        int written = 20 + random.nextInt(120);
        for (int i = 0; i < written; i++) {
            call("write", random.nextInt(pages), random.nextInt(6) * (random.nextBoolean() ? 1 : 11), random.nextInt(4));
        }
        int cut = random.nextInt(25);
        for (int i = 0; i < cut; i++) {
            int top = random.nextInt(3);
            int left = random.nextInt(6);
            call("piece", random.nextInt(pages), top, top + random.nextInt(3), left, left + random.nextInt(5));
        }
        for (int i = 0; i < 4 && random.nextBoolean(); i++) {
            call("name", i, random.nextInt(4));
            call("counts", i, random.nextInt(4), random.nextInt(201) - 100);
            call("counts", i, random.nextInt(4), -random.nextInt(101));
        }
        for (int i = 0; i < cut && random.nextInt(9) > 0; i++) {
            call("find", random.nextInt(2), random.nextInt(cut), true);
            call("find", random.nextInt(2), i, true);
        }
        int ordered = random.nextInt(8);
        for (int i = 0; i < ordered; i++) {
            sayRule();
            call("order", random.nextInt(3), 1023, 0, 50, random.nextInt(10), random.nextBoolean());
        }
    }

    private String pick() {
        int all = 0;
        for (String c : CALLS) {
            all += often(c);
        }
        int at = random.nextInt(all);
        for (String c : CALLS) {
            at -= often(c);
            if (at < 0) {
                return c;
            }
        }
        return CALLS[0];
    }

    private static int often(String call) {
        String name = call.split(" ")[0];
        return name.contains("*") ? Integer.parseInt(name.substring(name.indexOf('*') + 1)) : 1;
    }

    private void sayRule() {
        if (calls > 460) {
            return;
        }
        call("wipe");
        String rule = random.nextInt(3) == 0 ? "!9" : rule(0);
        for (int i = 0; i < rule.length() && i < 41; i++) {
            call("say", random.nextInt(300) == 0 ? 33 + random.nextInt(94) : (int) rule.charAt(i));
        }
        call("fault");
    }

    private String rule(int depth) {
        StringBuilder s = new StringBuilder(both(depth));
        while (random.nextInt(3) == 0) {
            s.append('|').append(both(depth));
        }
        return s.toString();
    }

    private String both(int depth) {
        StringBuilder s = new StringBuilder(item(depth));
        while (random.nextInt(4) == 0) {
            s.append('&').append(item(depth));
        }
        return s.toString();
    }

    private String item(int depth) {
        int kind = random.nextInt(8);
        String word = (random.nextInt(4) == 0 ? "0" : "") + random.nextInt(5);
        if (kind == 0) {
            return "!" + item(depth);
        }
        if (kind == 1 && depth < 9) {
            return "(" + rule(depth + 1) + ")";
        }
        if (kind == 2 || kind == 3) {
            return word + "~" + random.nextInt(4) + ":" + random.nextInt(5);
        }
        return kind == 4 ? word + ">" + random.nextInt(4) : word;
    }

    private Object value(String kind) {
        if (kind.equals("once")) {
            return random.nextInt(3) > 0;
        }
        if (random.nextDouble() < oddness) {
            return ODD[random.nextInt(ODD.length)];
        }
        switch (kind) {
            case "page":
                return below("page", 8);
            case "piece":
                return below("piece", 24);
            case "order":
                return below("order", 10);
            case "paper":
                return random.nextInt(papers);
            case "day":
                return random.nextInt(days);
            case "place":
                return random.nextInt(3) == 0 ? random.nextInt(60) : random.nextInt(6);
            case "word":
                return random.nextInt(4);
            case "wordOrNone":
                return random.nextInt(5) - 1;
            case "ofPage":
                return random.nextBoolean() ? random.nextInt(5) : 99 + random.nextInt(62);
            case "line":
                return last = random.nextInt(4);
            case "column":
                return last = random.nextInt(7);
            case "lineBelow":
            case "columnBelow":
                return last + random.nextInt(5) - (random.nextInt(9) == 0 ? 1 : 0);
            case "sign":
                return random.nextBoolean() ? 49 : 31 + random.nextInt(98);
            case "client":
                return random.nextInt(3);
            case "papers":
                return random.nextBoolean() ? 1023 : random.nextInt(16);
            case "lateDay":
                return random.nextInt(days + 1);
            case "most":
                return random.nextBoolean() ? random.nextInt(22) : random.nextInt(4);
            case "setting":
                return random.nextInt(3) == 0 ? 0 : random.nextInt(9);
            case "value":
                return random.nextInt(3) == 0 ? random.nextInt(1001) : random.nextInt(60) - 20;
            case "count":
                return random.nextInt(4) == 0 ? random.nextInt(204) - 102 : random.nextInt(31) - 15;
            case "name":
            case "reader":
                return random.nextInt(4);
            case "sheets":
                return random.nextInt(30) == 0 ? random.nextInt(7) : 1 + random.nextInt(4);
            case "minutes":
                return random.nextInt(3) == 0 ? random.nextInt(120) : 20 + random.nextInt(30);
            case "slip":
                return random.nextInt(4) == 0 ? random.nextInt(103) : random.nextInt(4);
            case "pages":
                return random.nextInt(1 << Math.max(1, room.getOrDefault("page", 0)));
            case "bits4":
                return random.nextInt(17);
            case "told":
                return random.nextInt(20);
            default:
                return random.nextInt(Integer.parseInt(kind.substring(2)) + 2) - 1;
        }
    }

    /** Mostly one that there is. */
    private int below(String what, int most) {
        int there = room.getOrDefault(what, 0);
        return there == 0 || random.nextInt(40) == 0 ? random.nextInt(most + 1) : random.nextInt(there);
    }

    private void call(String name, Object... numbers) {
        if (calls >= 512 || !checks.allAsDue()) {
            return;
        }
        calls++;
        int want = invoke(OF_PLAIN.get(name), plain, numbers);
        int got = invoke(OF_BUREAU.get(name), bureau, numbers);
        String text = name + java.util.Arrays.toString(numbers).replace('[', '(').replace(']', ')');
        run.append(text).append(" ").append(got).append("\n");
        checks.due(text, got, want);
        if (want >= 0 && (name.equals("page") || name.equals("piece") || name.equals("order"))) {
            room.put(name, want + 1);
        }
    }

    private static int invoke(Method method, Object on, Object[] numbers) {
        try {
            return (Integer) method.invoke(on, numbers);
        } catch (InvocationTargetException e) {
            e.getCause().printStackTrace();
            return Integer.MIN_VALUE;
        } catch (IllegalAccessException e) {
            throw new IllegalStateException(e);
        }
    }
}
