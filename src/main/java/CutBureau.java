/**
 * A bureau that reads papers for those who pay by the piece.
 * The promises that it keeps stand in the project's document (DOC.md).
 */
public final class CutBureau {
    public static final int UNKNOWN = -1, OUTSIDE = -2, STATE = -3, FULL = -4, NO = -5, NONE = -6;

    private static final int PAPERS = 10, DAYS = 100, WORDS = 100;
    private static final int LINES = 6, COLUMNS = 10, PLACES = 60;
    private static final int MOST_PAGES = 8, MOST_PIECES = 24, MOST_ORDERS = 10;
    private static final int MOST_OF_A_DAY = 20, CLIENTS = 6;
    private static final int NAMES = 4, READERS = 4, NOBODY = 4;
    private static final int MOST_SHEETS = 4;

    /** What i is, where a call asks how many there are instead of for the i-th. */
    private static final int HOW_MANY = -1;
    /** What ofPage() adds to a place. */
    private static final int PLACE_FROM = 100;
    /** What told() adds to a setting. */
    private static final int SETTING_FROM = 10;

    private static final int ALIKE = 0, REACH = 1, SURE = 2, UNREAD = 3, TIER = 4, PRICE = 5, BACK = 8;
    private static final int SETTINGS = 9;
    private static final int[] LEAST_SETTING = {0, 0, 1, 0, 1, 0, 0, 0, 0};
    private static final int[] GREATEST_SETTING = {100, 20, 1000, 1000, 100, 1000, 1000, 1000, 1000};

    private final int[] settings = {20, 5, 10, 500, 100, 3, 2, 1, 0};
    private final Page[] pages = new Page[MOST_PAGES];
    private int pageCount = 0;
    private final Piece[] pieces = new Piece[MOST_PIECES];
    private int pieceCount = 0;
    /** The same pieces by days, papers, numbers, which every list and family goes by. */
    private final Piece[] inOrder = new Piece[MOST_PIECES];
    private final Order[] orders = new Order[MOST_ORDERS];
    private int orderCount = 0;
    private Rule spoken = new Rule();
    private final Families families = new Families();
    private final int[] listed = new int[MOST_PIECES];
    private int listedCount = 0;
    private final Name[] names = new Name[NAMES];
    private final Asked pairs = new Asked();
    private final Reader[] readers = new Reader[READERS];
    private final Parting parting = new Parting();
    private final int[] missed = new int[CLIENTS];

    public CutBureau() {
        for (int i = 0; i < NAMES; i++) {
            names[i] = new Name();
        }
        for (int i = 0; i < READERS; i++) {
            readers[i] = new Reader();
        }
    }

    // ---- 1 pages, pieces

    public int page(int paper, int day) {
        if (!within(paper, 0, PAPERS - 1) || !isDay(day)) {
            return OUTSIDE;
        }
        if (pageCount >= MOST_PAGES) {
            return FULL;
        }
        pages[pageCount] = new Page(pageCount, paper, day);
        return pageCount++;
    }

    public int write(int page, int place, int word) {
        Page on = pageOf(page);
        if (on == null) {
            return UNKNOWN;
        }
        if (!within(place, 0, PLACES - 1) || !isWordOrNone(word)) {
            return OUTSIDE;
        }
        if (isKept(on)) {
            return STATE;
        }
        int was = on.words[place];
        on.words[place] = word < 0 ? NONE : word;
        readAgain(on);
        families.known = false;
        return was;
    }

    public int sides(int a, int b) {
        Page one = pageOf(a);
        Page other = pageOf(b);
        if (one == null || other == null || one == other) {
            return UNKNOWN;
        }
        if (one.paper != other.paper || one.day != other.day) {
            return STATE;
        }
        if (one.otherSide != null || other.otherSide != null) {
            return NO;
        }
        one.otherSide = other;
        other.otherSide = one;
        return 1;
    }

    public int ofPage(int page, int what) {
        Page of = pageOf(page);
        if (of == null) {
            return UNKNOWN;
        }
        if (within(what, PLACE_FROM, PLACE_FROM + PLACES - 1)) {
            return of.words[what - PLACE_FROM];
        }
        switch (what) {
            case 0:
                return of.paper;
            case 1:
                return of.day;
            case 2:
                return of.otherSide == null ? NONE : of.otherSide.number;
            case 3:
                return countPieces(of);
            default:
                return OUTSIDE;
        }
    }

    public int piece(int page, int top, int bottom, int left, int right) {
        Page from = pageOf(page);
        if (from == null) {
            return UNKNOWN;
        }
        if (!isRange(top, bottom, LINES) || !isRange(left, right, COLUMNS)) {
            return OUTSIDE;
        }
        if (pieceCount >= MOST_PIECES) {
            return FULL;
        }
        Piece cut = new Piece(pieceCount, from, top, bottom, left, right);
        cut.readWords();
        pieces[pieceCount] = cut;
        putInOrder(cut);
        families.known = false;
        return pieceCount++;
    }

    public int about(int piece, int what) {
        Piece of = pieceOf(piece);
        if (of == null) {
            return UNKNOWN;
        }
        if (what == 4 || what == 5) {
            families.gather(inOrder, pieceCount, settings[ALIKE]);
        }
        switch (what) {
            case 0:
                return of.page.number;
            case 1:
                return of.count;
            case 2:
                return of.names;
            case 3:
                return of.sent;
            case 4:
                return of.first;
            case 5:
                return of.familySize;
            default:
                return OUTSIDE;
        }
    }

    public int word(int piece, int i) {
        Piece of = pieceOf(piece);
        if (of == null) {
            return UNKNOWN;
        }
        return within(i, 0, of.count - 1) ? of.words[i] : NONE;
    }

    public int clash(int a, int b) {
        Piece one = pieceOf(a);
        Piece other = pieceOf(b);
        if (one == null || other == null) {
            return UNKNOWN;
        }
        return oneIf(one.clashesWith(other));
    }

    // ---- 2 orders

    public int say(int sign) {
        if (!within(sign, Rule.LEAST_SIGN, Rule.GREATEST_SIGN)) {
            return OUTSIDE;
        }
        if (spoken.length >= Rule.MOST_SIGNS) {
            return FULL;
        }
        spoken.signs[spoken.length] = sign;
        spoken.length++;
        return spoken.length;
    }

    public int wipe() {
        int were = spoken.length;
        spoken.length = 0;
        return were;
    }

    public int fault() {
        return spoken.faultPlace();
    }

    public int order(int client, int papers, int from, int till, int most, boolean once) {
        if (!isClient(client) || !within(papers, 0, (1 << PAPERS) - 1)
                || !isRange(from, till, DAYS) || !within(most, 0, MOST_OF_A_DAY)) {
            return OUTSIDE;
        }
        if (orderCount >= MOST_ORDERS) {
            return FULL;
        }
        if (spoken.faultPlace() != NONE) {
            return NO;
        }
        orders[orderCount] = new Order(client, spoken, papers, from, till, most, once);
        spoken = new Rule();
        return orderCount++;
    }

    public int wants(int order, int piece, int what) {
        Order by = orderOf(order);
        Piece of = pieceOf(piece);
        if (by == null || of == null) {
            return UNKNOWN;
        }
        switch (what) {
            case 0:
                return oneIf(by.asksFor(of));
            case 1:
                return oneIf(by.rule.isSo(of));
            default:
                return OUTSIDE;
        }
    }

    // ---- 3 doubles, lists

    public int changes(int a, int b) {
        Piece one = pieceOf(a);
        Piece other = pieceOf(b);
        if (one == null || other == null) {
            return UNKNOWN;
        }
        return families.leastChanges(one, other);
    }

    public int set(int which, int v) {
        if (!within(which, 0, SETTINGS - 1) || !within(v, LEAST_SETTING[which], GREATEST_SETTING[which])) {
            return OUTSIDE;
        }
        int was = settings[which];
        settings[which] = v;
        if (which == ALIKE) {
            families.known = false;
        }
        return was;
    }

    public int list(int order, int day, int i) {
        Order of = orderOf(order);
        if (of == null) {
            return UNKNOWN;
        }
        if (!isDay(day)) {
            return OUTSIDE;
        }
        gatherList(of, day);
        if (i == HOW_MANY) {
            return listedCount;
        }
        return within(i, 0, listedCount - 1) ? listed[i] : NONE;
    }

    // ---- 4 names

    public int name(int name, int word) {
        if (!isName(name)) {
            return UNKNOWN;
        }
        if (!isWordOrNone(word)) {
            return OUTSIDE;
        }
        int was = names[name].word;
        names[name].word = word < 0 ? NONE : word;
        return was;
    }

    public int counts(int name, int word, int v) {
        if (!isName(name)) {
            return UNKNOWN;
        }
        if (!within(word, 0, WORDS - 1) || !within(v, -100, 100)) {
            return OUTSIDE;
        }
        int was = names[name].counts[word];
        names[name].counts[word] = v;
        return was;
    }

    public int likely(int name, int piece, int what) {
        Piece of = pieceOf(piece);
        if (!isName(name) || of == null) {
            return UNKNOWN;
        }
        int place = names[name].likeliestPlace(of, settings[REACH]);
        int sum = place == NONE ? 0 : names[name].sumAround(of, place, settings[REACH]);
        switch (what) {
            case 0:
                return place == NONE ? 0 : verdictOf(sum);
            case 1:
                return sum;
            case 2:
                return place;
            default:
                return OUTSIDE;
        }
    }

    // ---- 5 served

    public int asked(int page, int i) {
        Page of = pageOf(page);
        if (of == null) {
            return UNKNOWN;
        }
        gatherAsked(of);
        if (i == HOW_MANY) {
            return pairs.count;
        }
        return within(i, 0, pairs.count - 1) ? 100 * pairs.orders[i] + pairs.pieces[i] : NONE;
    }

    public int served(int page, int n, int what) {
        Page of = pageOf(page);
        if (of == null) {
            return UNKNOWN;
        }
        if (!within(n, 1, MOST_SHEETS) || !within(what, 0, 1)) {
            return OUTSIDE;
        }
        gatherAsked(of);
        int best = pairs.bestSet(pieces, n);
        return what == 0 ? Integer.bitCount(best) : best;
    }

    // ---- 6 readers

    public int find(int reader, int piece, boolean is) {
        if (!isReader(reader) || pieceOf(piece) == null) {
            return UNKNOWN;
        }
        int found = readers[reader].found;
        int bit = 1 << piece;
        readers[reader].found = is ? found | bit : found & ~bit;
        return oneIf((found & bit) != 0);
    }

    public int misses(int a, int b, int what, int part) {
        if (!isReader(a) || !isReader(b) || a == b) {
            return UNKNOWN;
        }
        if (!within(what, 0, 1) || !within(part, 0, 1)) {
            return OUTSIDE;
        }
        int one = Integer.bitCount(readers[a].found);
        int other = Integer.bitCount(readers[b].found);
        int both = Integer.bitCount(readers[a].found & readers[b].found);
        if (both == 0) {
            return part;
        }
        int upper = what == 0 ? one * other : (one - both) * (other - both);
        return inLowestTerms(part == 0 ? upper : both, upper, both);
    }

    public int reader(int reader, int what, int v) {
        if (!isReader(reader)) {
            return UNKNOWN;
        }
        Reader of = readers[reader];
        if (what == 0 && within(v, 1, 100)) {
            int was = of.minutesAPage;
            of.minutesAPage = v;
            return was;
        }
        if (what == 1 && within(v, 0, 1000)) {
            int was = of.minutesInAll;
            of.minutesInAll = v;
            return was;
        }
        return OUTSIDE;
    }

    public int slips(int reader, int paper, int v) {
        if (!isReader(reader)) {
            return UNKNOWN;
        }
        if (!within(paper, 0, PAPERS - 1) || !within(v, 0, 100)) {
            return OUTSIDE;
        }
        int was = readers[reader].slips[paper];
        readers[reader].slips[paper] = v;
        return was;
    }

    public int parted(int pages, int i) {
        if (!within(pages, 0, (1 << pageCount) - 1)) {
            return OUTSIDE;
        }
        if (i != HOW_MANY && !(within(i, 0, pageCount - 1) && hasBit(pages, i))) {
            return NONE;
        }
        long code = leastParting(pages);
        return i == HOW_MANY ? Parting.sumOf(code) : Parting.readerOf(code, i);
    }

    // ---- 7 sent, filed

    public int send(int piece, int order) {
        Piece sent = pieceOf(piece);
        Order to = orderOf(order);
        if (sent == null || to == null) {
            return UNKNOWN;
        }
        if (!isListed(sent, to)) {
            return STATE;
        }
        if (hasBit(sent.sent, order)) {
            return NO;
        }
        sent.sent |= 1 << order;
        return 1;
    }

    public int miss(int client) {
        if (!isClient(client)) {
            return UNKNOWN;
        }
        missed[client]++;
        return missed[client];
    }

    public int bill(int client, int what) {
        if (!isClient(client)) {
            return UNKNOWN;
        }
        switch (what) {
            case 0:
                return Math.max(0, priceOf(countSentTo(client)) - settings[BACK] * missed[client]);
            case 1:
                return countSentTo(client);
            default:
                return OUTSIDE;
        }
    }

    public int file(int piece, int names) {
        Piece of = pieceOf(piece);
        if (of == null) {
            return UNKNOWN;
        }
        if (!within(names, 0, (1 << NAMES) - 1)) {
            return OUTSIDE;
        }
        int was = of.names;
        of.names = names;
        return was;
    }

    public int old(int name, int from, int to, int i) {
        if (!isName(name)) {
            return UNKNOWN;
        }
        if (!isDay(from) || !isDay(to)) {
            return OUTSIDE;
        }
        int count = 0;
        for (int k = 0; k < pieceCount; k++) {
            Piece kept = inOrder[k];
            if (hasBit(kept.names, name) && within(kept.page.day, from, to)) {
                if (count == i) {
                    return kept.number;
                }
                count++;
            }
        }
        return i == HOW_MANY ? count : NONE;
    }

    public int told(int what) {
        if (within(what, SETTING_FROM, SETTING_FROM + SETTINGS - 1)) {
            return settings[what - SETTING_FROM];
        }
        switch (what) {
            case 0:
                return pageCount;
            case 1:
                return pieceCount;
            case 2:
                return orderCount;
            case 3:
                return spoken.length;
            case 4:
                return countSent();
            case 5:
                return countMissed();
            default:
                return OUTSIDE;
        }
    }

    // ---- what a number may be

    private static boolean within(int v, int least, int greatest) {
        return v >= least && v <= greatest;
    }

    /** Whether two numbers below a bound stand in order; they may be one. */
    private static boolean isRange(int from, int till, int bound) {
        return from >= 0 && from <= till && till < bound;
    }

    private static boolean isDay(int day) {
        return within(day, 0, DAYS - 1);
    }

    private static boolean isWordOrNone(int word) {
        return within(word, -1, WORDS - 1);
    }

    private static boolean isClient(int client) {
        return within(client, 0, CLIENTS - 1);
    }

    private static boolean isName(int name) {
        return within(name, 0, NAMES - 1);
    }

    private static boolean isReader(int reader) {
        return within(reader, 0, READERS - 1);
    }

    private static boolean hasBit(int bits, int i) {
        return (bits >> i & 1) == 1;
    }

    private static int oneIf(boolean so) {
        return so ? 1 : 0;
    }

    private Page pageOf(int number) {
        return within(number, 0, pageCount - 1) ? pages[number] : null;
    }

    private Piece pieceOf(int number) {
        return within(number, 0, pieceCount - 1) ? pieces[number] : null;
    }

    private Order orderOf(int number) {
        return within(number, 0, orderCount - 1) ? orders[number] : null;
    }

    // ---- what the calls go through

    private boolean isKept(Page page) {
        for (int i = 0; i < pieceCount; i++) {
            if (pieces[i].page == page && (pieces[i].sent != 0 || pieces[i].names != 0)) {
                return true;
            }
        }
        return false;
    }

    private void readAgain(Page page) {
        for (int i = 0; i < pieceCount; i++) {
            if (pieces[i].page == page) {
                pieces[i].readWords();
            }
        }
    }

    private int countPieces(Page page) {
        int count = 0;
        for (int i = 0; i < pieceCount; i++) {
            if (pieces[i].page == page) {
                count++;
            }
        }
        return count;
    }

    /** A new piece has the greatest number, so days and papers alone tell how far ahead it goes. */
    private void putInOrder(Piece piece) {
        int at = pieceCount;
        while (at > 0 && inOrder[at - 1].page.isLaterThan(piece.page)) {
            inOrder[at] = inOrder[at - 1];
            at--;
        }
        inOrder[at] = piece;
    }

    private void gatherList(Order order, int day) {
        if (order.once) {
            families.gather(inOrder, pieceCount, settings[ALIKE]);
        }
        listedCount = 0;
        int wantedFamilies = 0;
        for (int k = 0; k < pieceCount; k++) {
            Piece piece = inOrder[k];
            if (!order.asksFor(piece)) {
                continue;
            }
            if (order.once && hasBit(wantedFamilies, piece.first)) {
                continue;
            }
            wantedFamilies |= 1 << piece.first;
            if (piece.page.day == day && listedCount < order.most) {
                listed[listedCount] = piece.number;
                listedCount++;
            }
        }
    }

    private boolean isListed(Piece piece, Order order) {
        gatherList(order, piece.page.day);
        for (int i = 0; i < listedCount; i++) {
            if (listed[i] == piece.number) {
                return true;
            }
        }
        return false;
    }

    private int verdictOf(int sum) {
        if (sum >= settings[SURE]) {
            return 1;
        }
        return sum <= -settings[SURE] ? 2 : 3;
    }

    private void gatherAsked(Page page) {
        pairs.count = 0;
        for (int order = 0; order < orderCount; order++) {
            gatherList(orders[order], page.day);
            for (int i = 0; i < listedCount; i++) {
                Page from = pieces[listed[i]].page;
                if (from == page || from == page.otherSide) {
                    pairs.add(order, listed[i]);
                }
            }
        }
    }

    /** One of a fraction's two numbers, after both are divided by the most that they have in common. */
    private static int inLowestTerms(int one, int upper, int lower) {
        for (int d = lower; d > 1; d--) {
            if (upper % d == 0 && lower % d == 0) {
                return one / d;
            }
        }
        return one;
    }

    private long leastParting(int bits) {
        for (int p = 0; p < pageCount; p++) {
            parting.missedOn[p] = settings[UNREAD];
        }
        parting.leaveUnread(bits);
        for (int r = READERS - 1; r >= 0; r--) {
            for (int p = 0; p < pageCount; p++) {
                parting.missedOn[p] = readers[r].slips[pages[p].paper];
            }
            parting.offerTo(readers[r], r, bits);
        }
        return parting.least[bits];
    }

    private int countSentTo(int client) {
        int count = 0;
        for (int order = 0; order < orderCount; order++) {
            for (int i = 0; orders[order].client == client && i < pieceCount; i++) {
                count += oneIf(hasBit(pieces[i].sent, order));
            }
        }
        return count;
    }

    private int priceOf(int count) {
        int first = Math.min(count, settings[TIER]);
        int second = Math.min(count - first, settings[TIER]);
        int others = count - first - second;
        return first * settings[PRICE] + second * settings[PRICE + 1] + others * settings[PRICE + 2];
    }

    private int countSent() {
        int count = 0;
        for (int i = 0; i < pieceCount; i++) {
            count += Integer.bitCount(pieces[i].sent);
        }
        return count;
    }

    private int countMissed() {
        int count = 0;
        for (int client = 0; client < CLIENTS; client++) {
            count += missed[client];
        }
        return count;
    }

    /** A page of a paper, of a day, with a word or NONE in each place. */
    private static final class Page {
        final int number;
        final int paper;
        final int day;
        final int[] words = new int[PLACES];
        Page otherSide = null;

        Page(int number, int paper, int day) {
            this.number = number;
            this.paper = paper;
            this.day = day;
            for (int i = 0; i < PLACES; i++) {
                words[i] = NONE;
            }
        }

        boolean isLaterThan(Page other) {
            return day != other.day ? day > other.day : paper > other.paper;
        }
    }

    /** A piece of a page; its words are held here so that no call gathers them twice. */
    private static final class Piece {
        final int number;
        final Page page;
        final int top;
        final int bottom;
        final int left;
        final int right;
        final int[] words = new int[PLACES];
        int count = 0;
        /** Of its family; they hold only while the families are known. */
        int first = 0;
        int familySize = 0;
        /** Names that it is filed for, orders that it is sent to, as bits. */
        int names = 0;
        int sent = 0;

        Piece(int number, Page page, int top, int bottom, int left, int right) {
            this.number = number;
            this.page = page;
            this.top = top;
            this.bottom = bottom;
            this.left = left;
            this.right = right;
        }

        void readWords() {
            count = 0;
            for (int line = top; line <= bottom; line++) {
                for (int column = left; column <= right; column++) {
                    int word = page.words[line * COLUMNS + column];
                    if (word != NONE) {
                        words[count] = word;
                        count++;
                    }
                }
            }
        }

        boolean clashesWith(Piece other) {
            if (top > other.bottom || other.top > bottom) {
                return false;
            }
            if (page == other.page) {
                return left <= other.right && other.left <= right;
            }
            int last = COLUMNS - 1;
            return page.otherSide == other.page && left <= last - other.left && last - other.right <= right;
        }

        int howOften(int word) {
            int times = 0;
            for (int i = 0; i < count; i++) {
                if (words[i] == word) {
                    times++;
                }
            }
            return times;
        }

        boolean hasNear(int one, int other, int distance) {
            for (int i = 0; i < count; i++) {
                for (int k = i + 1; k < count && k <= i + distance; k++) {
                    if (words[i] == one && words[k] == other || words[i] == other && words[k] == one) {
                        return true;
                    }
                }
            }
            return false;
        }
    }

    /** The signs of a rule. */
    private static final class Rule {
        static final int MOST_SIGNS = 40, LEAST_SIGN = 33, GREATEST_SIGN = 126;
        private static final int DEEPEST = 8;
        /** What has been read last, which tells what may stand next. */
        private static final int BAD = -1, BEFORE_ITEM = 0, ONE_DIGIT = 1, WORD = 2, NEAR = 3, DISTANCE = 4,
                BEFORE_OTHER = 5, OTHER_DIGIT = 6, MORE = 7, ITEM = 8;

        final int[] signs = new int[MOST_SIGNS];
        int length = 0;

        int faultPlace() {
            int state = BEFORE_ITEM;
            int depth = 0;
            for (int at = 0; at < length; at++) {
                state = stateAfter(state, signs[at], depth);
                if (state == BAD) {
                    return at;
                }
                if (signs[at] == '(') {
                    depth++;
                } else if (signs[at] == ')') {
                    depth--;
                }
            }
            boolean mayEnd = state == ONE_DIGIT || state == WORD || state == OTHER_DIGIT || state == ITEM;
            return mayEnd && depth == 0 ? NONE : length;
        }

        private static int stateAfter(int state, int sign, int depth) {
            boolean digit = sign >= '0' && sign <= '9';
            switch (state) {
                case BEFORE_ITEM:
                    if (sign == '!' || sign == '(' && depth < DEEPEST) {
                        return BEFORE_ITEM;
                    }
                    return digit ? ONE_DIGIT : BAD;
                case ONE_DIGIT:
                    return digit ? WORD : stateAfterWord(sign, depth);
                case WORD:
                    return stateAfterWord(sign, depth);
                case NEAR:
                    return digit ? DISTANCE : BAD;
                case DISTANCE:
                    return sign == ':' ? BEFORE_OTHER : BAD;
                case BEFORE_OTHER:
                    return digit ? OTHER_DIGIT : BAD;
                case OTHER_DIGIT:
                    return digit ? ITEM : stateAfterItem(sign, depth);
                case MORE:
                    return digit ? ITEM : BAD;
                default:
                    return stateAfterItem(sign, depth);
            }
        }

        private static int stateAfterWord(int sign, int depth) {
            if (sign == '~') {
                return NEAR;
            }
            return sign == '>' ? MORE : stateAfterItem(sign, depth);
        }

        private static int stateAfterItem(int sign, int depth) {
            if (sign == '&' || sign == '|') {
                return BEFORE_ITEM;
            }
            return sign == ')' && depth > 0 ? ITEM : BAD;
        }

        /**
         * Whether a rule without fault is so of a piece. The depths stand as bits, so that no stack is made:
         * one of the boths so far is so, all items of this both so far are so, the next item is turned by !.
         */
        boolean isSo(Piece piece) {
            int oneBoth = 0;
            int allItems = 1;
            int turned = 0;
            int depth = 0;
            for (int at = 0; at < length; at++) {
                int sign = signs[at];
                if (sign == '(') {
                    depth++;
                    oneBoth &= ~(1 << depth);
                    allItems |= 1 << depth;
                } else if (sign == '!') {
                    turned ^= 1 << depth;
                } else if (sign == '|') {
                    oneBoth |= allItems & 1 << depth;
                    allItems |= 1 << depth;
                } else if (sign == ')' || startsItem(at)) {
                    boolean so = sign == ')' ? hasBit(oneBoth | allItems, depth) : itemIsSo(piece, at);
                    depth -= sign == ')' ? 1 : 0;
                    if (so == hasBit(turned, depth)) {
                        allItems &= ~(1 << depth);
                    }
                    turned &= ~(1 << depth);
                }
            }
            return hasBit(oneBoth | allItems, 0);
        }

        private boolean startsItem(int at) {
            int before = signAt(at - 1);
            boolean inItem = digitAt(at - 1) >= 0 || before == '~' || before == ':' || before == '>';
            return digitAt(at) >= 0 && !inItem;
        }

        private boolean itemIsSo(Piece piece, int at) {
            int word = wordAt(at);
            int next = digitAt(at + 1) < 0 ? at + 1 : at + 2;
            if (signAt(next) == '~') {
                return piece.hasNear(word, wordAt(next + 3), digitAt(next + 1));
            }
            if (signAt(next) == '>') {
                return piece.howOften(word) > digitAt(next + 1);
            }
            return piece.howOften(word) > 0;
        }

        private int wordAt(int at) {
            int first = digitAt(at);
            int second = digitAt(at + 1);
            return second < 0 ? first : 10 * first + second;
        }

        /** The digit's number; -1, if there is none. */
        private int digitAt(int at) {
            boolean there = at >= 0 && at < length && signs[at] >= '0' && signs[at] <= '9';
            return there ? signs[at] - '0' : -1;
        }

        private int signAt(int at) {
            return at >= 0 && at < length ? signs[at] : 0;
        }
    }

    /** What a client wants. */
    private static final class Order {
        final int client;
        final Rule rule;
        final int papers;
        final int from;
        final int till;
        final int most;
        final boolean once;

        Order(int client, Rule rule, int papers, int from, int till, int most, boolean once) {
            this.client = client;
            this.rule = rule;
            this.papers = papers;
            this.from = from;
            this.till = till;
            this.most = most;
            this.once = once;
        }

        boolean asksFor(Piece piece) {
            Page page = piece.page;
            return page.day >= from && page.day <= till && hasBit(papers, page.paper) && rule.isSo(piece);
        }
    }

    /** The families of doubles; gathered anew only if words, pieces or the limit are others. */
    private static final class Families {
        boolean known = false;
        private final Piece[] members = new Piece[MOST_PIECES];
        private final int[] row = new int[PLACES + 1];

        /** The pieces come in order, so the first one that has no family yet is the first one of its own. */
        void gather(Piece[] inOrder, int count, int alike) {
            if (known) {
                return;
            }
            for (int k = 0; k < count; k++) {
                inOrder[k].first = NONE;
            }
            for (int k = 0; k < count; k++) {
                if (inOrder[k].first == NONE) {
                    gatherOne(inOrder, count, k, alike);
                }
            }
            known = true;
        }

        private void gatherOne(Piece[] inOrder, int count, int start, int alike) {
            Piece first = inOrder[start];
            first.first = first.number;
            members[0] = first;
            int size = 1;
            for (int m = 0; m < size && m < count; m++) {
                for (int k = start + 1; k < count; k++) {
                    Piece other = inOrder[k];
                    if (other.first == NONE && areDoubles(members[m], other, alike)) {
                        other.first = first.number;
                        members[size] = other;
                        size++;
                    }
                }
            }
            for (int m = 0; m < size; m++) {
                members[m].familySize = size;
            }
        }

        private boolean areDoubles(Piece a, Piece b, int alike) {
            if (a.count == 0 || b.count == 0) {
                return false;
            }
            int longer = a.count > b.count ? a.count : b.count;
            int shorter = a.count + b.count - longer;
            int allowed = alike * longer;
            // each word that one has more is a change, so most pairs need no count of the others
            return (longer - shorter) * 100 <= allowed && leastChanges(a, b) * 100 <= allowed;
        }

        int leastChanges(Piece a, Piece b) {
            for (int k = 0; k <= b.count; k++) {
                row[k] = k;
            }
            for (int i = 1; i <= a.count; i++) {
                int slant = row[0];
                row[0] = i;
                for (int k = 1; k <= b.count; k++) {
                    int other = slant + oneIf(a.words[i - 1] != b.words[k - 1]);
                    slant = row[k];
                    row[k] = Math.min(other, 1 + Math.min(row[k], row[k - 1]));
                }
            }
            return row[b.count];
        }
    }

    /** A name that others bear, and what the words near it count. */
    private static final class Name {
        int word = NONE;
        final int[] counts = new int[WORDS];

        int likeliestPlace(Piece piece, int reach) {
            int best = NONE;
            int greatest = 0;
            for (int i = 0; i < piece.count; i++) {
                if (piece.words[i] == word) {
                    int sum = sumAround(piece, i, reach);
                    if (best == NONE || sum > greatest) {
                        best = i;
                        greatest = sum;
                    }
                }
            }
            return best;
        }

        int sumAround(Piece piece, int place, int reach) {
            int sum = 0;
            for (int i = Math.max(0, place - reach); i < piece.count && i <= place + reach; i++) {
                if (i != place) {
                    sum += counts[piece.words[i]];
                }
            }
            return sum;
        }
    }

    /** The pairs of an order and a piece that are asked of a page, and which of them are served. */
    private static final class Asked {
        private static final int MOST_PAIRS = 9, SETS = 512;

        final int[] orders = new int[MOST_PAIRS];
        final int[] pieces = new int[MOST_PAIRS];
        int count = 0;
        /** By the bit of a pair: the bits of those that clash with it. */
        private final int[] clashing = new int[MOST_PAIRS];
        /** By the bits of a set of pairs: how many sheets it needs. */
        private final int[] sheets = new int[SETS];

        void add(int order, int piece) {
            if (count < MOST_PAIRS) {
                orders[count] = order;
                pieces[count] = piece;
                count++;
            }
        }

        /**
         * The most pairs that n sheets serve, pair i as bit i. Until the end the first pair is the greatest bit:
         * so the greater of two sets of one size is the one that has the first pair in which they are not alike.
         */
        int bestSet(Piece[] all, int n) {
            findClashes(all);
            countSheets();
            int best = 0;
            for (int set = 1; set < 1 << count; set++) {
                if (sheets[set] <= n && Integer.bitCount(set) >= Integer.bitCount(best)) {
                    best = set;
                }
            }
            int bits = 0;
            for (int i = 0; i < count; i++) {
                bits |= (best >> count - 1 - i & 1) << i;
            }
            return bits;
        }

        private void findClashes(Piece[] all) {
            for (int i = 0; i < count; i++) {
                int bits = 0;
                for (int k = 0; k < count; k++) {
                    if (k != i && all[pieces[i]].clashesWith(all[pieces[k]])) {
                        bits |= 1 << count - 1 - k;
                    }
                }
                clashing[count - 1 - i] = bits;
            }
        }

        private void countSheets() {
            sheets[0] = 0;
            for (int set = 1; set < 1 << count; set++) {
                sheets[set] = fitsOneSheet(set) ? 1 : leastSheets(set);
            }
        }

        private boolean fitsOneSheet(int set) {
            for (int i = 0; i < count; i++) {
                if (hasBit(set, i) && (clashing[i] & set) != 0) {
                    return false;
                }
            }
            return true;
        }

        /** One sheet takes a part of the set; that part and the rest are smaller numbers, counted already. */
        private int leastSheets(int set) {
            int least = MOST_PAIRS;
            for (int part = set - 1 & set; part > 0; part = part - 1 & set) {
                if (sheets[part] == 1 && sheets[set ^ part] < least) {
                    least = sheets[set ^ part];
                }
            }
            return least + 1;
        }
    }

    /** One who reads. */
    private static final class Reader {
        int minutesAPage = 50;
        int minutesInAll = 100;
        final int[] slips = new int[PAPERS];
        /** The pieces that he found, as bits. */
        int found = 0;
    }

    /**
     * Pages parted among readers. A parting is one number: the sum of what is missed, and behind it, to the
     * base of 5, the reader of each page, page 0 first. So the least number is the least sum and, of several
     * of that sum, the first by pages.
     */
    private static final class Parting {
        private static final int SETS = 256;
        private static final int CHOICES = 5;
        private static final int SUM_UNIT = 390625;
        private static final int[] PAGE_UNITS = {78125, 15625, 3125, 625, 125, 25, 5, 1};

        /** What is missed on each page by the one who is looked at. */
        final int[] missedOn = new int[MOST_PAGES];
        /** By the bits of a set of pages: the least parting of it among those who were looked at so far. */
        final long[] least = new long[SETS];
        private final long[] ofOne = new long[SETS];

        void leaveUnread(int bits) {
            giveAll(NOBODY, bits);
            for (int set = 0; set <= bits; set++) {
                least[set] = ofOne[set];
            }
        }

        /** From the greatest set down, as each looks at smaller ones that do not have this reader yet. */
        void offerTo(Reader reader, int number, int bits) {
            giveAll(number, bits);
            for (int set = bits; set > 0; set = set - 1 & bits) {
                for (int own = set; own > 0; own = own - 1 & set) {
                    if (Integer.bitCount(own) * reader.minutesAPage <= reader.minutesInAll) {
                        least[set] = Math.min(least[set], ofOne[own] + least[set ^ own]);
                    }
                }
            }
        }

        /** What each set is, if one has it whole. */
        private void giveAll(int number, int bits) {
            ofOne[0] = 0;
            for (int p = 0; p < MOST_PAGES; p++) {
                long one = (long) missedOn[p] * SUM_UNIT + number * PAGE_UNITS[p];
                for (int set = 1 << p; set < 2 << p && set <= bits; set++) {
                    ofOne[set] = ofOne[set ^ 1 << p] + one;
                }
            }
        }

        static int sumOf(long code) {
            return (int) (code / SUM_UNIT);
        }

        static int readerOf(long code, int page) {
            long rest = code;
            for (int p = MOST_PAGES - 1; p > page; p--) {
                rest /= CHOICES;
            }
            return (int) (rest % CHOICES);
        }
    }
}
