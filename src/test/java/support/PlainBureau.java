import java.util.ArrayList;
import java.util.Comparator;
import java.util.HashMap;
import java.util.List;
import java.util.Map;

/**
 * The document told once more, by other means: every term is worked out from its definition at each call,
 * by trying all that there is. Slow on purpose; tests compare CutBureau with it.
 */
final class PlainBureau {
    private static final int UNKNOWN = -1, OUTSIDE = -2, STATE = -3, FULL = -4, NO = -5, NONE = -6;
    private static final int[][] RANGES = {
        {0, 100}, {0, 20}, {1, 1000}, {0, 1000}, {1, 100}, {0, 1000}, {0, 1000}, {0, 1000}, {0, 1000}};

    private static final class Sheet {
        int number, paper, day, other = -1;
        Map<Integer, Integer> words = new HashMap<>();
    }

    private static final class Cut {
        int number, top, bottom, left, right, names;
        Sheet page;
        List<Integer> sent = new ArrayList<>();

        boolean covers(int line, int column) {
            return line >= top && line <= bottom && column >= left && column <= right;
        }
    }

    private static final class Wish {
        int number, client, papers, from, till, most;
        boolean once;
        String rule;
    }

    private final List<Sheet> sheets = new ArrayList<>();
    private final List<Cut> cuts = new ArrayList<>();
    private final List<Wish> wishes = new ArrayList<>();
    private String text = "";
    private final int[] numbers = {20, 5, 10, 500, 100, 3, 2, 1, 0};
    private final int[] nameWords = {-1, -1, -1, -1};
    private final int[][] nameCounts = new int[4][100];
    private final boolean[][] found = new boolean[4][24];
    private final int[] aPage = {50, 50, 50, 50};
    private final int[] inAll = {100, 100, 100, 100};
    private final int[][] slip = new int[4][10];
    private final int[] missesOf = new int[6];

    private static boolean out(int v, int from, int to) {
        return v < from || v > to;
    }

    private boolean noSheet(int page) {
        return out(page, 0, sheets.size() - 1);
    }

    private boolean noCut(int piece) {
        return out(piece, 0, cuts.size() - 1);
    }

    private boolean noWish(int order) {
        return out(order, 0, wishes.size() - 1);
    }

    private static int orNone(int word) {
        return word == -1 ? NONE : word;
    }

    private static int ith(List<Integer> all, int i) {
        if (i == -1) {
            return all.size();
        }
        return out(i, 0, all.size() - 1) ? NONE : all.get(i);
    }

    // ---- 1

    public int page(int paper, int day) {
        if (out(paper, 0, 9) || out(day, 0, 99)) {
            return OUTSIDE;
        }
        if (sheets.size() == 8) {
            return FULL;
        }
        Sheet s = new Sheet();
        s.number = sheets.size();
        s.paper = paper;
        s.day = day;
        sheets.add(s);
        return s.number;
    }

    public int write(int page, int place, int word) {
        if (noSheet(page)) {
            return UNKNOWN;
        }
        if (out(place, 0, 59) || out(word, -1, 99)) {
            return OUTSIDE;
        }
        Sheet s = sheets.get(page);
        for (Cut c : cuts) {
            if (c.page == s && (!c.sent.isEmpty() || c.names != 0)) {
                return STATE;
            }
        }
        int was = s.words.getOrDefault(place, -1);
        s.words.put(place, word);
        return orNone(was);
    }

    public int sides(int a, int b) {
        if (noSheet(a) || noSheet(b) || a == b) {
            return UNKNOWN;
        }
        Sheet s = sheets.get(a);
        Sheet t = sheets.get(b);
        if (s.paper != t.paper || s.day != t.day) {
            return STATE;
        }
        if (s.other != -1 || t.other != -1) {
            return NO;
        }
        s.other = b;
        t.other = a;
        return 1;
    }

    public int ofPage(int page, int what) {
        if (noSheet(page)) {
            return UNKNOWN;
        }
        Sheet s = sheets.get(page);
        if (what == 0) {
            return s.paper;
        }
        if (what == 1) {
            return s.day;
        }
        if (what == 2) {
            return orNone(s.other);
        }
        if (what == 3) {
            return (int) cuts.stream().filter(c -> c.page == s).count();
        }
        return out(what, 100, 159) ? OUTSIDE : orNone(s.words.getOrDefault(what - 100, -1));
    }

    public int piece(int page, int top, int bottom, int left, int right) {
        if (noSheet(page)) {
            return UNKNOWN;
        }
        if (out(top, 0, 5) || out(bottom, 0, 5) || out(left, 0, 9) || out(right, 0, 9)
                || top > bottom || left > right) {
            return OUTSIDE;
        }
        if (cuts.size() == 24) {
            return FULL;
        }
        Cut c = new Cut();
        c.number = cuts.size();
        c.page = sheets.get(page);
        c.top = top;
        c.bottom = bottom;
        c.left = left;
        c.right = right;
        cuts.add(c);
        return c.number;
    }

    public int about(int piece, int what) {
        if (noCut(piece)) {
            return UNKNOWN;
        }
        if (out(what, 0, 5)) {
            return OUTSIDE;
        }
        Cut c = cuts.get(piece);
        switch (what) {
            case 0:
                return c.page.number;
            case 1:
                return wordsOf(c).size();
            case 2:
                return c.names;
            case 3:
                return c.sent.stream().mapToInt(o -> 1 << o).sum();
            case 4:
                return family(c).stream().min(byDays()).get().number;
            default:
                return family(c).size();
        }
    }

    private static Comparator<Cut> byDays() {
        return Comparator.<Cut>comparingInt(c -> c.page.day).thenComparingInt(c -> c.page.paper)
                .thenComparingInt(c -> c.number);
    }

    private List<Integer> wordsOf(Cut c) {
        List<Integer> all = new ArrayList<>();
        for (int place = 0; place < 60; place++) {
            int word = c.page.words.getOrDefault(place, -1);
            if (word != -1 && c.covers(place / 10, place % 10)) {
                all.add(word);
            }
        }
        return all;
    }

    public int word(int piece, int i) {
        if (noCut(piece)) {
            return UNKNOWN;
        }
        List<Integer> all = wordsOf(cuts.get(piece));
        return out(i, 0, all.size() - 1) ? NONE : all.get(i);
    }

    public int clash(int a, int b) {
        return noCut(a) || noCut(b) ? UNKNOWN : clashing(cuts.get(a), cuts.get(b)) ? 1 : 0;
    }

    private boolean clashing(Cut a, Cut b) {
        for (int line = 0; line < 6; line++) {
            for (int column = 0; column < 10; column++) {
                if (a.covers(line, column)
                        && (a.page == b.page && b.covers(line, column)
                        || a.page.other == b.page.number && b.covers(line, 9 - column))) {
                    return true;
                }
            }
        }
        return false;
    }

    // ---- 2

    public int say(int sign) {
        if (out(sign, 33, 126)) {
            return OUTSIDE;
        }
        if (text.length() == 40) {
            return FULL;
        }
        text += (char) sign;
        return text.length();
    }

    public int wipe() {
        int were = text.length();
        text = "";
        return were;
    }

    public int fault() {
        Map<String, Boolean> known = new HashMap<>();
        for (int end = 1; end <= text.length(); end++) {
            if (!canGoOn(text.substring(0, end), known)) {
                return end - 1;
            }
        }
        return isRule(text, 0, known) ? NONE : text.length();
    }

    /** Whether some rule begins so: whatever has begun can be ended by one of these, and by brackets. */
    private static boolean canGoOn(String start, Map<String, Boolean> known) {
        for (String more : new String[] {"", "1", "1:1", ":1"}) {
            String end = "";
            for (int brackets = 0; brackets <= 8; brackets++) {
                if (isRule(start + more + end, 0, known)) {
                    return true;
                }
                end += ")";
            }
        }
        return false;
    }

    private static boolean isRule(String s, int depth, Map<String, Boolean> known) {
        String key = depth + s;
        if (!known.containsKey(key)) {
            boolean is = isBoth(s, depth, known);
            for (int i = s.indexOf('|'); i >= 0 && !is; i = s.indexOf('|', i + 1)) {
                is = isBoth(s.substring(0, i), depth, known) && isRule(s.substring(i + 1), depth, known);
            }
            known.put(key, is);
        }
        return known.get(key);
    }

    private static boolean isBoth(String s, int depth, Map<String, Boolean> known) {
        boolean is = isItem(s, depth, known);
        for (int i = s.indexOf('&'); i >= 0 && !is; i = s.indexOf('&', i + 1)) {
            is = isItem(s.substring(0, i), depth, known) && isBoth(s.substring(i + 1), depth, known);
        }
        return is;
    }

    private static boolean isItem(String s, int depth, Map<String, Boolean> known) {
        if (s.startsWith("!")) {
            return isItem(s.substring(1), depth, known);
        }
        if (s.startsWith("(")) {
            return depth < 8 && s.length() > 1 && s.endsWith(")")
                    && isRule(s.substring(1, s.length() - 1), depth + 1, known);
        }
        return s.matches("[0-9]{1,2}(~[0-9]:[0-9]{1,2}|>[0-9])?");
    }

    public int order(int client, int papers, int from, int till, int most, boolean once) {
        if (out(client, 0, 5) || out(papers, 0, 1023) || out(from, 0, 99) || out(till, 0, 99)
                || from > till || out(most, 0, 20)) {
            return OUTSIDE;
        }
        if (wishes.size() == 10) {
            return FULL;
        }
        if (fault() != NONE) {
            return NO;
        }
        Wish w = new Wish();
        w.number = wishes.size();
        w.client = client;
        w.papers = papers;
        w.from = from;
        w.till = till;
        w.most = most;
        w.once = once;
        w.rule = text;
        text = "";
        wishes.add(w);
        return w.number;
    }

    /** Splits at the signs that stand in no brackets. */
    private static List<String> split(String s, char at) {
        List<String> parts = new ArrayList<>();
        int depth = 0;
        int start = 0;
        for (int i = 0; i < s.length(); i++) {
            char c = s.charAt(i);
            depth += c == '(' ? 1 : c == ')' ? -1 : 0;
            if (c == at && depth == 0) {
                parts.add(s.substring(start, i));
                start = i + 1;
            }
        }
        parts.add(s.substring(start));
        return parts;
    }

    private static boolean ruleSo(String rule, List<Integer> words) {
        for (String both : split(rule, '|')) {
            boolean all = true;
            for (String item : split(both, '&')) {
                all = all && itemSo(item, words);
            }
            if (all) {
                return true;
            }
        }
        return false;
    }

    private static boolean itemSo(String item, List<Integer> words) {
        if (item.startsWith("!")) {
            return !itemSo(item.substring(1), words);
        }
        if (item.startsWith("(")) {
            return ruleSo(item.substring(1, item.length() - 1), words);
        }
        String[] parts = item.split("[~:>]");
        int word = Integer.parseInt(parts[0]);
        if (item.contains("~")) {
            int distance = Integer.parseInt(parts[1]);
            int other = Integer.parseInt(parts[2]);
            for (int i = 0; i < words.size(); i++) {
                for (int k = 0; k < words.size(); k++) {
                    if (i != k && words.get(i) == word && words.get(k) == other && Math.abs(i - k) <= distance) {
                        return true;
                    }
                }
            }
            return false;
        }
        long times = words.stream().filter(w -> w == word).count();
        return times > (item.contains(">") ? Integer.parseInt(parts[1]) : 0);
    }

    private boolean wanting(Wish w, Cut c) {
        return (w.papers >> c.page.paper & 1) == 1 && !out(c.page.day, w.from, w.till) && ruleSo(w.rule, wordsOf(c));
    }

    public int wants(int order, int piece, int what) {
        if (noWish(order) || noCut(piece)) {
            return UNKNOWN;
        }
        if (out(what, 0, 1)) {
            return OUTSIDE;
        }
        Wish w = wishes.get(order);
        Cut c = cuts.get(piece);
        return (what == 0 ? wanting(w, c) : ruleSo(w.rule, wordsOf(c))) ? 1 : 0;
    }

    // ---- 3

    public int changes(int a, int b) {
        return noCut(a) || noCut(b) ? UNKNOWN : distance(wordsOf(cuts.get(a)), wordsOf(cuts.get(b)));
    }

    private static int distance(List<Integer> a, List<Integer> b) {
        int[][] d = new int[a.size() + 1][b.size() + 1];
        for (int i = 0; i <= a.size(); i++) {
            for (int k = 0; k <= b.size(); k++) {
                if (i == 0 || k == 0) {
                    d[i][k] = i + k;
                } else {
                    int made = d[i - 1][k - 1] + (a.get(i - 1).equals(b.get(k - 1)) ? 0 : 1);
                    d[i][k] = Math.min(made, Math.min(d[i - 1][k], d[i][k - 1]) + 1);
                }
            }
        }
        return d[a.size()][b.size()];
    }

    private boolean doubles(Cut a, Cut b) {
        List<Integer> one = wordsOf(a);
        List<Integer> other = wordsOf(b);
        return !one.isEmpty() && !other.isEmpty()
                && distance(one, other) * 100 <= numbers[0] * Math.max(one.size(), other.size());
    }

    private List<Cut> family(Cut c) {
        List<Cut> all = new ArrayList<>();
        all.add(c);
        boolean more = true;
        while (more) {
            more = false;
            for (Cut other : cuts) {
                if (!all.contains(other) && all.stream().anyMatch(member -> doubles(member, other))) {
                    all.add(other);
                    more = true;
                }
            }
        }
        return all;
    }

    public int set(int which, int v) {
        if (out(which, 0, 8) || out(v, RANGES[which][0], RANGES[which][1])) {
            return OUTSIDE;
        }
        int was = numbers[which];
        numbers[which] = v;
        return was;
    }

    private List<Integer> listOf(Wish w, int day) {
        List<Cut> all = new ArrayList<>();
        for (Cut c : cuts) {
            if (c.page.day == day && wanting(w, c)
                    && !(w.once && family(c).stream().anyMatch(o -> byDays().compare(o, c) < 0 && wanting(w, o)))) {
                all.add(c);
            }
        }
        all.sort(byDays());
        List<Integer> first = new ArrayList<>();
        for (int i = 0; i < all.size() && i < w.most; i++) {
            first.add(all.get(i).number);
        }
        return first;
    }

    public int list(int order, int day, int i) {
        if (noWish(order)) {
            return UNKNOWN;
        }
        return out(day, 0, 99) ? OUTSIDE : ith(listOf(wishes.get(order), day), i);
    }

    // ---- 4

    public int name(int name, int word) {
        if (out(name, 0, 3)) {
            return UNKNOWN;
        }
        if (out(word, -1, 99)) {
            return OUTSIDE;
        }
        int was = nameWords[name];
        nameWords[name] = word;
        return orNone(was);
    }

    public int counts(int name, int word, int v) {
        if (out(name, 0, 3)) {
            return UNKNOWN;
        }
        if (out(word, 0, 99) || out(v, -100, 100)) {
            return OUTSIDE;
        }
        int was = nameCounts[name][word];
        nameCounts[name][word] = v;
        return was;
    }

    public int likely(int name, int piece, int what) {
        if (out(name, 0, 3) || noCut(piece)) {
            return UNKNOWN;
        }
        if (out(what, 0, 2)) {
            return OUTSIDE;
        }
        List<Integer> words = wordsOf(cuts.get(piece));
        int place = NONE;
        int greatest = Integer.MIN_VALUE;
        for (int i = 0; i < words.size(); i++) {
            if (words.get(i) != nameWords[name]) {
                continue;
            }
            int sum = 0;
            for (int k = 0; k < words.size(); k++) {
                sum += k != i && Math.abs(k - i) <= numbers[1] ? nameCounts[name][words.get(k)] : 0;
            }
            if (sum > greatest) {
                greatest = sum;
                place = i;
            }
        }
        if (what == 2) {
            return place;
        }
        if (place == NONE) {
            return 0;
        }
        return what == 1 ? greatest : greatest >= numbers[2] ? 1 : -greatest >= numbers[2] ? 2 : 3;
    }

    // ---- 5

    private List<Integer> askedOf(Sheet s) {
        List<Integer> all = new ArrayList<>();
        for (Wish w : wishes) {
            for (int c : listOf(w, s.day)) {
                int page = cuts.get(c).page.number;
                if (page == s.number || page == s.other) {
                    all.add(100 * w.number + c);
                }
            }
        }
        return new ArrayList<>(all.subList(0, Math.min(9, all.size())));
    }

    public int asked(int page, int i) {
        return noSheet(page) ? UNKNOWN : ith(askedOf(sheets.get(page)), i);
    }

    public int served(int page, int n, int what) {
        if (noSheet(page)) {
            return UNKNOWN;
        }
        if (out(n, 1, 4) || out(what, 0, 1)) {
            return OUTSIDE;
        }
        List<Integer> pairs = askedOf(sheets.get(page));
        int best = 0;
        for (int set = 0; set < 1 << pairs.size(); set++) {
            if (isBetter(set, best) && fits(pairs, set, 0, new int[9], n)) {
                best = set;
            }
        }
        return what == 0 ? Integer.bitCount(best) : best;
    }

    private static boolean isBetter(int set, int best) {
        if (Integer.bitCount(set) != Integer.bitCount(best)) {
            return Integer.bitCount(set) > Integer.bitCount(best);
        }
        for (int i = 0; i < 9; i++) {
            if ((set >> i & 1) != (best >> i & 1)) {
                return (set >> i & 1) == 1;
            }
        }
        return false;
    }

    private boolean fits(List<Integer> pairs, int set, int i, int[] sheet, int n) {
        if (i == pairs.size()) {
            return true;
        }
        if ((set >> i & 1) == 0) {
            return fits(pairs, set, i + 1, sheet, n);
        }
        for (int s = 0; s < n; s++) {
            boolean free = true;
            for (int k = 0; k < i; k++) {
                free = free && !((set >> k & 1) == 1 && sheet[k] == s
                        && clashing(cuts.get(pairs.get(i) % 100), cuts.get(pairs.get(k) % 100)));
            }
            sheet[i] = s;
            if (free && fits(pairs, set, i + 1, sheet, n)) {
                return true;
            }
        }
        return false;
    }

    // ---- 6

    public int find(int reader, int piece, boolean is) {
        if (out(reader, 0, 3) || noCut(piece)) {
            return UNKNOWN;
        }
        boolean was = found[reader][piece];
        found[reader][piece] = is;
        return was ? 1 : 0;
    }

    public int misses(int a, int b, int what, int part) {
        if (out(a, 0, 3) || out(b, 0, 3) || a == b) {
            return UNKNOWN;
        }
        if (out(what, 0, 1) || out(part, 0, 1)) {
            return OUTSIDE;
        }
        int one = 0;
        int other = 0;
        int both = 0;
        for (int i = 0; i < 24; i++) {
            one += found[a][i] ? 1 : 0;
            other += found[b][i] ? 1 : 0;
            both += found[a][i] && found[b][i] ? 1 : 0;
        }
        if (both == 0) {
            return part == 0 ? 0 : 1;
        }
        int upper = what == 0 ? one * other : (one - both) * (other - both);
        int divisor = java.math.BigInteger.valueOf(upper).gcd(java.math.BigInteger.valueOf(both)).intValue();
        return (part == 0 ? upper : both) / divisor;
    }

    public int reader(int reader, int what, int v) {
        if (out(reader, 0, 3)) {
            return UNKNOWN;
        }
        if (out(what, 0, 1) || what == 0 && out(v, 1, 100) || what == 1 && out(v, 0, 1000)) {
            return OUTSIDE;
        }
        int[] row = what == 0 ? aPage : inAll;
        int was = row[reader];
        row[reader] = v;
        return was;
    }

    public int slips(int reader, int paper, int v) {
        if (out(reader, 0, 3)) {
            return UNKNOWN;
        }
        if (out(paper, 0, 9) || out(v, 0, 100)) {
            return OUTSIDE;
        }
        int was = slip[reader][paper];
        slip[reader][paper] = v;
        return was;
    }

    private int leastSum;
    private int[] leastParts;

    public int parted(int pages, int i) {
        if (pages < 0 || pages >= 1 << sheets.size()) {
            return OUTSIDE;
        }
        if (i != -1 && (out(i, 0, 7) || (pages >> i & 1) == 0)) {
            return NONE;
        }
        leastSum = Integer.MAX_VALUE;
        tryParts(pages, 0, new int[8], new int[5], 0);
        return i == -1 ? leastSum : leastParts[i];
    }

    private void tryParts(int pages, int p, int[] parts, int[] minutes, int sum) {
        if (sum >= leastSum) {
            return;
        }
        if (p == sheets.size()) {
            leastSum = sum;
            leastParts = parts.clone();
            return;
        }
        if ((pages >> p & 1) == 0) {
            tryParts(pages, p + 1, parts, minutes, sum);
            return;
        }
        for (int r = 0; r < 5; r++) {
            if (r < 4 && minutes[r] + aPage[r] > inAll[r]) {
                continue;
            }
            parts[p] = r;
            minutes[r] += r < 4 ? aPage[r] : 0;
            tryParts(pages, p + 1, parts, minutes, sum + (r < 4 ? slip[r][sheets.get(p).paper] : numbers[3]));
            minutes[r] -= r < 4 ? aPage[r] : 0;
        }
    }

    // ---- 7

    public int send(int piece, int order) {
        if (noCut(piece) || noWish(order)) {
            return UNKNOWN;
        }
        Cut c = cuts.get(piece);
        if (!listOf(wishes.get(order), c.page.day).contains(piece)) {
            return STATE;
        }
        if (c.sent.contains(order)) {
            return NO;
        }
        c.sent.add(order);
        return 1;
    }

    public int miss(int client) {
        return out(client, 0, 5) ? UNKNOWN : ++missesOf[client];
    }

    public int bill(int client, int what) {
        if (out(client, 0, 5)) {
            return UNKNOWN;
        }
        if (out(what, 0, 1)) {
            return OUTSIDE;
        }
        int n = 0;
        int sum = 0;
        for (Cut c : cuts) {
            for (int order : c.sent) {
                if (wishes.get(order).client == client) {
                    n++;
                    sum += numbers[n <= numbers[4] ? 5 : n <= 2 * numbers[4] ? 6 : 7];
                }
            }
        }
        return what == 1 ? n : Math.max(0, sum - numbers[8] * missesOf[client]);
    }

    public int file(int piece, int names) {
        if (noCut(piece)) {
            return UNKNOWN;
        }
        if (out(names, 0, 15)) {
            return OUTSIDE;
        }
        int was = cuts.get(piece).names;
        cuts.get(piece).names = names;
        return was;
    }

    public int old(int name, int from, int to, int i) {
        if (out(name, 0, 3)) {
            return UNKNOWN;
        }
        if (out(from, 0, 99) || out(to, 0, 99)) {
            return OUTSIDE;
        }
        List<Cut> all = new ArrayList<>(cuts);
        all.removeIf(c -> (c.names >> name & 1) == 0 || out(c.page.day, from, to));
        all.sort(byDays());
        return ith(all.stream().map(c -> c.number).toList(), i);
    }

    public int told(int what) {
        if (!out(what, 10, 18)) {
            return numbers[what - 10];
        }
        switch (what) {
            case 0:
                return sheets.size();
            case 1:
                return cuts.size();
            case 2:
                return wishes.size();
            case 3:
                return text.length();
            case 4:
                return cuts.stream().mapToInt(c -> c.sent.size()).sum();
            case 5:
                return java.util.Arrays.stream(missesOf).sum();
            default:
                return OUTSIDE;
        }
    }
}
