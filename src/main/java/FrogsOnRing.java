import java.util.Arrays;

/** Frogs on stones in a ring, a row or a tree; the document's promises are told by number in README.md. */
public final class FrogsOnRing {
    public static final int NONE = -1, UNKNOWN = -101, OUTSIDE = -102, STATE = -103, FULL = -104;

    private static final int NOBODY = 0;
    private static final int GREEN = 1;
    private static final int BROWN = 2;
    private static final int YELLOW = 3;
    private static final int LAST_KIND = 3;

    private static final int MOST_STONES = 9;
    private static final int MOST_LETTERS = 24;
    private static final int MOST_LETTERS_A_CALL = 8;
    private static final int GREATEST_LETTER = 126;
    private static final int MOST_MADE = 60;
    private static final int LAST_NTH = 63;
    private static final int MOST_LUCK_TIMES = 6;
    private static final int MOST_CHILD_TIMES = 99;
    private static final int CHILD_MOVES = 9;
    private static final int CHILD_SEED = 10;
    private static final int COUNTS = 8;
    private static final int FROM_WEIGHT = 16;

    // 9! / (3! 2! 2! 2!): no nine stones have more orders; without yellows 9! / (3! 3! 3!).
    private static final int MOST_ORDERS = 7560;
    private static final int MOST_ENDING_ORDERS = 1680;

    private final Page page;
    private final Reading reading;
    private final Pond pond;
    private final Numbering numbering;
    private final Search search;
    private final Ending ending;
    private final Chance chance;
    private final Course now;
    private final Course kept;
    private boolean keptStands;
    private int aimed;
    private boolean hasAim;
    private int reads;

    public FrogsOnRing() {
        page = new Page();
        reading = new Reading();
        pond = new Pond();
        numbering = new Numbering();
        search = new Search(pond, numbering);
        ending = new Ending(pond, numbering, search);
        chance = new Chance(pond, numbering, search);
        now = new Course();
        kept = new Course();
    }

    // ---- texts

    public int letters(long w) {
        int fresh = Page.lettersIn(w);
        if (fresh == OUTSIDE) {
            return OUTSIDE;
        }
        if (page.size + fresh > MOST_LETTERS) {
            return FULL;
        }
        page.append(w, fresh);
        return page.size;
    }

    public int blank() {
        int had = page.size;
        page.clear();
        return had;
    }

    public int fault() {
        reading.read(page);
        return reading.place;
    }

    public int stones() {
        reading.read(page);
        if (!reading.whole) {
            return STATE;
        }
        pond.lay(reading, page);
        now.begin(page.orderAt(reading.first, pond.size));
        numbering.prepare(now.order, pond.size);
        search.forget();
        keptStands = false;
        hasAim = false;
        reads++;
        page.clear();
        return pond.size;
    }

    public int aim() {
        if (noStones() || !pageIsAim()) {
            return STATE;
        }
        aimed = page.orderAt(0, pond.size);
        hasAim = true;
        page.clear();
        return frogsOf(aimed);
    }

    public int stone(int stone, int what) {
        if (!isStone(stone)) {
            return UNKNOWN;
        }
        switch (what) {
            case 0:
                return kindToldOf(now.order, stone);
            case 1:
                return pond.behind(stone);
            case 2:
                return hasAim ? kindToldOf(aimed, stone) : NONE;
            default:
                return OUTSIDE;
        }
    }

    public int as(int stone, int kind) {
        if (!isStone(stone)) {
            return UNKNOWN;
        }
        if (kind < 0 || kind > LAST_KIND) {
            return OUTSIDE;
        }
        return isOfKind(kindAt(now.order, stone), kind) ? stone : NONE;
    }

    // ---- moves

    public int can(int from, int to) {
        if (!isStone(from) || !isStone(to)) {
            return UNKNOWN;
        }
        return pond.isMove(now.order, from, to) ? 1 : 0;
    }

    public int move(int from, int to) {
        if (!isStone(from) || !isStone(to)) {
            return UNKNOWN;
        }
        if (!pond.isMove(now.order, from, to)) {
            return STATE;
        }
        if (now.made >= MOST_MADE) {
            return FULL;
        }
        now.make(from, to);
        return now.made;
    }

    public int back() {
        if (now.made == 0) {
            return STATE;
        }
        now.unmake();
        return now.made;
    }

    public int many() {
        if (noStones()) {
            return STATE;
        }
        return pond.movesOf(now.order);
    }

    public int nth(int i) {
        if (noStones()) {
            return STATE;
        }
        if (i < 0 || i > LAST_NTH) {
            return OUTSIDE;
        }
        return pond.moveNumber(now.order, i);
    }

    // ---- other orders

    public int fewest() {
        if (!hasAim) {
            return STATE;
        }
        search.lookFrom(now.order);
        return search.stepsTo(aimed);
    }

    public long ways() {
        if (!hasAim) {
            return STATE;
        }
        search.lookFrom(now.order);
        return search.waysTo(aimed);
    }

    public int by() {
        if (!hasAim) {
            return STATE;
        }
        search.lookFrom(now.order);
        return search.firstMoveTo(aimed);
    }

    public int reach(int what) {
        if (noStones()) {
            return STATE;
        }
        if (what < 0 || what > 2) {
            return OUTSIDE;
        }
        search.lookFrom(now.order);
        if (what == 0) {
            return search.reached;
        }
        return what == 1 ? search.stuck : search.farthest;
    }

    public int longest() {
        if (!isEnding()) {
            return STATE;
        }
        ending.settleFrom(now.order);
        return ending.mostMovesFrom(now.order);
    }

    public int game(int who, int what) {
        if (!isEnding()) {
            return STATE;
        }
        if (who < 0 || who > 1 || what < 0 || what > 1) {
            return OUTSIDE;
        }
        ending.settleFrom(now.order);
        int colour = who == 0 ? GREEN : BROWN;
        if (what == 0) {
            return ending.wins(now.order, colour) ? 1 : 0;
        }
        return ending.winningMove(now.order, colour);
    }

    // ---- children, turns

    public int luck(int times, int part) {
        if (!hasAim || frogsOf(now.order) == 0) {
            return STATE;
        }
        if (times < 0 || times > MOST_LUCK_TIMES || part < 0 || part > 1) {
            return OUTSIDE;
        }
        int below = power(frogsOf(now.order), times);
        int above = chance.rowsEndingAt(aimed, now.order, times);
        int shared = greatestShared(above, below);
        if (shared == 0) {
            return 0;
        }
        return part == 0 ? above / shared : below / shared;
    }

    public int child(int times, int seed, int what) {
        if (noStones() || frogsOf(now.order) == 0) {
            return STATE;
        }
        if (times < 1 || times > MOST_CHILD_TIMES || seed < 0 || what < 0 || what > CHILD_SEED) {
            return OUTSIDE;
        }
        chance.play(now.order, times, seed);
        if (what == CHILD_MOVES) {
            return chance.playedMoves;
        }
        if (what == CHILD_SEED) {
            return chance.playedSeed;
        }
        return kindToldOf(chance.playedOrder, what);
    }

    public int alike() {
        if (!hasAim || !pond.isRing) {
            return STATE;
        }
        for (int k = 0; k < pond.size; k++) {
            if (pond.turned(now.order, k) == aimed) {
                return k;
            }
        }
        return NONE;
    }

    public int kinds() {
        if (noStones() || !pond.isRing) {
            return STATE;
        }
        search.lookFrom(now.order);
        return search.unlikeOrders();
    }

    // ---- what is told

    public int image() {
        if (noStones()) {
            return STATE;
        }
        kept.copy(now);
        keptStands = true;
        return kept.made;
    }

    public int restore() {
        if (!keptStands) {
            return STATE;
        }
        now.copy(kept);
        return now.made;
    }

    public int count(int what) {
        switch (what) {
            case 0:
                return pond.size;
            case 1:
                return frogsOf(now.order);
            case 2:
                return colouredOf(now.order, GREEN);
            case 3:
                return colouredOf(now.order, BROWN);
            case 4:
                return colouredOf(now.order, YELLOW);
            case 5:
                return now.made;
            case 6:
                return page.size;
            case 7:
                return reads;
            default:
                return OUTSIDE;
        }
    }

    public long digest() {
        long h = 563;
        for (int stone = 0; stone < pond.size; stone++) {
            for (int what = 0; what <= 2; what++) {
                h = 31 * h + stone(stone, what);
            }
        }
        if (!noStones()) {
            h = withMoves(h);
            for (int what = 0; what <= 2; what++) {
                h = 31 * h + reach(what);
            }
        }
        if (hasAim) {
            h = 31 * h + fewest();
            h = 31 * h + ways();
            h = 31 * h + by();
        }
        for (int place = 0; place < page.size; place++) {
            h = 31 * h + page.letterAt(place);
        }
        for (int what = 0; what < COUNTS; what++) {
            h = 31 * h + count(what);
        }
        return h;
    }

    private long withMoves(long before) {
        long h = before;
        for (int from = 0; from < pond.size; from++) {
            for (int to = 0; to < pond.size; to++) {
                if (pond.isMove(now.order, from, to)) {
                    h = 31 * h + FROM_WEIGHT * from + to;
                }
            }
        }
        return h;
    }

    private boolean noStones() {
        return pond.size == 0;
    }

    private boolean isStone(int stone) {
        return stone >= 0 && stone < pond.size;
    }

    private boolean isEnding() {
        return !noStones() && !pond.isRing && colouredOf(now.order, YELLOW) == 0;
    }

    private boolean pageIsAim() {
        if (page.size != pond.size) {
            return false;
        }
        for (int place = 0; place < page.size; place++) {
            if (kindOfLetter(page.letterAt(place)) == NONE) {
                return false;
            }
        }
        int read = page.orderAt(0, pond.size);
        for (int kind = GREEN; kind <= LAST_KIND; kind++) {
            if (colouredOf(read, kind) != colouredOf(now.order, kind)) {
                return false;
            }
        }
        return true;
    }

    // An order is a number with two bits a stone, stone 0 the lowest: NOBODY, GREEN, BROWN or YELLOW.

    private static int kindAt(int order, int stone) {
        return (order >> (2 * stone)) & 3;
    }

    private static int kindToldOf(int order, int stone) {
        int kind = kindAt(order, stone);
        return kind == NOBODY ? NONE : kind;
    }

    private static int afterMove(int order, int from, int to) {
        int kind = kindAt(order, from);
        return order - (kind << (2 * from)) + (kind << (2 * to));
    }

    private static boolean isOfKind(int frog, int kind) {
        if (frog == NOBODY) {
            return false;
        }
        return kind == 0 || frog == kind || (frog == YELLOW && kind == GREEN);
    }

    // YELLOW has the bits of GREEN and of BROWN, so that a bit tells a way that a frog goes.

    private static boolean goesOn(int kind) {
        return (kind & GREEN) != 0;
    }

    private static boolean goesBack(int kind) {
        return (kind & BROWN) != 0;
    }

    private static int colouredOf(int order, int kind) {
        int found = 0;
        for (int stone = 0; stone < MOST_STONES; stone++) {
            if (kindAt(order, stone) == kind) {
                found++;
            }
        }
        return found;
    }

    private static int frogsOf(int order) {
        return MOST_STONES - colouredOf(order, NOBODY);
    }

    private static int kindOfLetter(int letter) {
        switch (letter) {
            case '.':
                return NOBODY;
            case 'g':
                return GREEN;
            case 'b':
                return BROWN;
            case 'y':
                return YELLOW;
            default:
                return NONE;
        }
    }

    private static int power(int base, int exponent) {
        int product = 1;
        for (int i = 0; i < exponent; i++) {
            product *= base;
        }
        return product;
    }

    private static int greatestShared(int one, int other) {
        int a = one;
        int b = other;
        // Euclid's rests halve every two rounds, so an int needs fewer than 64.
        for (int round = 0; round < 64 && b != 0; round++) {
            int rest = a % b;
            a = b;
            b = rest;
        }
        return a;
    }

    /** THE PAGE. */
    private static final class Page {
        final int[] codes = new int[MOST_LETTERS];
        int size;

        static int byteOf(long w, int place) {
            return (int) (w >>> (8 * place)) & 255;
        }

        static int lettersIn(long w) {
            int found = 0;
            boolean ended = false;
            for (int place = 0; place < MOST_LETTERS_A_CALL; place++) {
                int code = byteOf(w, place);
                if (code > GREATEST_LETTER || (ended && code != 0)) {
                    return OUTSIDE;
                }
                if (code == 0) {
                    ended = true;
                } else {
                    found++;
                }
            }
            return found;
        }

        void append(long w, int fresh) {
            for (int place = 0; place < fresh && size < MOST_LETTERS; place++) {
                codes[size] = byteOf(w, place);
                size++;
            }
        }

        void clear() {
            size = 0;
        }

        // 0 behind the last letter: no letter of the page is 0, so it fits no text.
        int letterAt(int place) {
            return place >= 0 && place < size ? codes[place] : 0;
        }

        int orderAt(int first, int stones) {
            int order = 0;
            for (int stone = 0; stone < stones; stone++) {
                int kind = kindOfLetter(letterAt(first + stone));
                if (kind > NOBODY) {
                    order |= kind << (2 * stone);
                }
            }
            return order;
        }
    }

    /** What the page says, read as STONES: how far it fits, and whether it is whole. */
    private static final class Reading {
        int form;
        boolean overOthers;
        boolean overTwo;
        int first;
        int size;
        int place;
        boolean whole;

        void read(Page page) {
            whole = false;
            first = 0;
            size = 0;
            place = 0;
            readForm(page);
            if (place == 0) {
                return;
            }
            overOthers = takes(page, 'o');
            overTwo = takes(page, '2');
            if (!takes(page, ':')) {
                return;
            }
            readStones(page);
            if (size < 2) {
                return;
            }
            boolean fits = form != 't' || readParents(page);
            whole = fits && place == page.size;
        }

        private boolean takes(Page page, int letter) {
            if (page.letterAt(place) != letter) {
                return false;
            }
            place++;
            return true;
        }

        private void readForm(Page page) {
            form = page.letterAt(0);
            if (form == 'r' || form == 'w' || form == 't') {
                place = 1;
            }
        }

        private void readStones(Page page) {
            first = place;
            while (size < MOST_STONES && kindOfLetter(page.letterAt(place)) != NONE) {
                size++;
                place++;
            }
        }

        private boolean readParents(Page page) {
            if (!takes(page, '/')) {
                return false;
            }
            for (int stone = 1; stone < size; stone++) {
                int parent = page.letterAt(place) - '0';
                if (parent < 0 || parent >= stone) {
                    return false;
                }
                place++;
            }
            return true;
        }
    }

    /** How the STONES lie, and which MOVES an order has on them. */
    private static final class Pond {
        final int[] behinds = new int[MOST_STONES];
        final int[] depths = new int[MOST_STONES];
        int size;
        boolean isRing;
        boolean overOthers;
        int longestLeap;

        void lay(Reading reading, Page page) {
            size = reading.size;
            isRing = reading.form == 'r';
            overOthers = reading.overOthers;
            longestLeap = reading.overTwo ? 3 : 2;
            int parents = reading.first + size;
            for (int stone = 0; stone < size && stone < MOST_STONES; stone++) {
                int ahead = stone - 1;
                if (stone == 0) {
                    ahead = isRing ? size - 1 : NONE;
                } else if (reading.form == 't') {
                    ahead = page.letterAt(parents + stone) - '0';
                }
                behinds[stone] = ahead;
                depths[stone] = stone == 0 ? 0 : depthOf(ahead) + 1;
            }
        }

        int behind(int stone) {
            return stone >= 0 && stone < size && stone < MOST_STONES ? behinds[stone] : NONE;
        }

        int depthOf(int stone) {
            return stone >= 0 && stone < size && stone < MOST_STONES ? depths[stone] : 0;
        }

        boolean isMove(int order, int from, int to) {
            int kind = kindAt(order, from);
            if (kind == NOBODY || kindAt(order, to) != NOBODY) {
                return false;
            }
            return (goesOn(kind) && joins(order, to, from, kind))
                || (goesBack(kind) && joins(order, from, to, kind));
        }

        // ON is BACK turned round, so one walk BACK from the far end tells both.
        private boolean joins(int order, int far, int near, int kind) {
            int at = far;
            for (int leap = 1; leap <= longestLeap; leap++) {
                at = behind(at);
                if (at == near) {
                    return true;
                }
                if (at == NONE || !lets(kindAt(order, at), kind)) {
                    return false;
                }
            }
            return false;
        }

        private boolean lets(int under, int leaping) {
            return under != NOBODY && !(overOthers && under == leaping);
        }

        int movesOf(int order) {
            int found = 0;
            for (int from = 0; from < size; from++) {
                for (int to = 0; to < size; to++) {
                    if (isMove(order, from, to)) {
                        found++;
                    }
                }
            }
            return found;
        }

        int moveNumber(int order, int number) {
            int passed = 0;
            for (int from = 0; from < size; from++) {
                for (int to = 0; to < size; to++) {
                    if (isMove(order, from, to)) {
                        if (passed == number) {
                            return FROM_WEIGHT * from + to;
                        }
                        passed++;
                    }
                }
            }
            return NONE;
        }

        int afterLeastMove(int order, int from) {
            for (int to = 0; to < size; to++) {
                if (isMove(order, from, to)) {
                    return afterMove(order, from, to);
                }
            }
            return order;
        }

        int turned(int order, int k) {
            int all = (1 << (2 * size)) - 1;
            return ((order << (2 * k)) | (order >> (2 * (size - k)))) & all;
        }
    }

    /**
     * Numbers all orders of the same frogs, without gaps. The first five stones leave a mixture of
     * frogs for the others: an order's number is how many orders begin with lesser first stones,
     * and how many lesser ways the others have to hold their mixture.
     */
    private static final class Numbering {
        static final int LOW_STONES = 5;
        static final int LOWS = 1024;
        static final int HIGHS = 256;
        static final int MOST_HIGH = 4;
        static final int MIXTURES = 125;

        final int[] lowStarts = new int[LOWS];
        final int[] highNumbers = new int[HIGHS];
        final int[] mixtureSizes = new int[MIXTURES];

        void prepare(int order, int stones) {
            int low = Math.min(stones, LOW_STONES);
            Arrays.fill(mixtureSizes, 0);
            numberHighs(1 << (2 * (stones - low)));
            numberLows(1 << (2 * low), order);
        }

        private void numberHighs(int highs) {
            for (int high = 0; high < highs && high < HIGHS; high++) {
                int mixture = mixtureOf(tally(high), 0);
                if (mixture != NONE) {
                    highNumbers[high] = mixtureSizes[mixture];
                    mixtureSizes[mixture]++;
                }
            }
        }

        private void numberLows(int lows, int order) {
            int whole = tally(order);
            int begun = 0;
            for (int low = 0; low < lows && low < LOWS; low++) {
                lowStarts[low] = begun;
                int mixture = mixtureOf(whole, tally(low));
                if (mixture != NONE) {
                    begun += mixtureSizes[mixture];
                }
            }
        }

        // How many greens, browns and yellows, a byte each.
        private static int tally(int order) {
            int sum = 0;
            for (int stone = 0; stone < MOST_STONES; stone++) {
                sum += 1 << (8 * kindAt(order, stone));
            }
            return sum >>> 8;
        }

        private static int mixtureOf(int whole, int taken) {
            int mixture = 0;
            for (int shift = 0; shift <= 16; shift += 8) {
                int left = ((whole >> shift) & 255) - ((taken >> shift) & 255);
                if (left < 0 || left > MOST_HIGH) {
                    return NONE;
                }
                mixture = mixture * (MOST_HIGH + 1) + left;
            }
            return mixture;
        }

        int numberOf(int order) {
            return lowStarts[order & (LOWS - 1)] + highNumbers[(order >> (2 * LOW_STONES)) & (HIGHS - 1)];
        }
    }

    /** All orders that can be come to from one, by fewest moves; kept until another order is asked. */
    private static final class Search {
        final Pond pond;
        final Numbering numbering;
        final int[] orders = new int[MOST_ORDERS];
        final int[] steps = new int[MOST_ORDERS];
        final long[] rows = new long[MOST_ORDERS];
        final int[] firsts = new int[MOST_ORDERS];
        int start;
        boolean stands;
        int looks;
        int reached;
        int stuck;
        int farthest;

        Search(Pond pond, Numbering numbering) {
            this.pond = pond;
            this.numbering = numbering;
        }

        void forget() {
            stands = false;
        }

        void lookFrom(int order) {
            if (stands && start == order) {
                return;
            }
            Arrays.fill(steps, NONE);
            reached = 0;
            stuck = 0;
            farthest = 0;
            begin(order);
            for (int i = 0; i < reached && i < MOST_ORDERS; i++) {
                goOnFrom(orders[i]);
            }
            start = order;
            stands = true;
            looks++;
        }

        private void begin(int order) {
            int here = numbering.numberOf(order);
            if (isNumber(here)) {
                meet(order, here, 0, NONE);
                rows[here] = 1;
            }
        }

        private void goOnFrom(int order) {
            int here = numbering.numberOf(order);
            if (!isNumber(here)) {
                return;
            }
            boolean moved = false;
            for (int from = 0; from < pond.size; from++) {
                if (kindAt(order, from) != NOBODY) {
                    moved |= goOnBy(order, here, from);
                }
            }
            if (!moved) {
                stuck++;
            }
        }

        private boolean goOnBy(int order, int here, int from) {
            boolean moved = false;
            for (int to = 0; to < pond.size; to++) {
                if (pond.isMove(order, from, to)) {
                    moved = true;
                    int first = steps[here] == 0 ? FROM_WEIGHT * from + to : firsts[here];
                    join(here, afterMove(order, from, to), first);
                }
            }
            return moved;
        }

        private void join(int here, int next, int first) {
            int there = numbering.numberOf(next);
            if (!isNumber(there)) {
                return;
            }
            int step = steps[here] + 1;
            if (steps[there] == NONE) {
                meet(next, there, step, first);
            }
            if (steps[there] == step) {
                rows[there] += rows[here];
                firsts[there] = Math.min(firsts[there], first);
            }
        }

        private void meet(int order, int number, int step, int first) {
            if (reached >= MOST_ORDERS) {
                return;
            }
            steps[number] = step;
            rows[number] = 0;
            firsts[number] = first;
            orders[reached] = order;
            reached++;
            farthest = step;
        }

        private boolean isNumber(int number) {
            return number >= 0 && number < MOST_ORDERS;
        }

        int stepsTo(int order) {
            int number = numbering.numberOf(order);
            return isNumber(number) ? steps[number] : NONE;
        }

        long waysTo(int order) {
            int number = numbering.numberOf(order);
            return isNumber(number) && steps[number] != NONE ? rows[number] : 0;
        }

        int firstMoveTo(int order) {
            int number = numbering.numberOf(order);
            return isNumber(number) && steps[number] != NONE ? firsts[number] : NONE;
        }

        int unlikeOrders() {
            int found = 0;
            for (int i = 0; i < reached && i < MOST_ORDERS; i++) {
                if (isLeastOfItsTurns(orders[i])) {
                    found++;
                }
            }
            return found;
        }

        private boolean isLeastOfItsTurns(int order) {
            for (int k = 1; k < pond.size; k++) {
                int other = pond.turned(order, k);
                if (other < order && stepsTo(other) != NONE) {
                    return false;
                }
            }
            return true;
        }
    }

    /** LONGEST and GAME of all orders that can be come to, the last ones first. */
    private static final class Ending {
        // Nine frogs at depth eight at most, browns below and greens above.
        static final int MOST_GONE = 72;
        static final int LEVELS = 2 * MOST_GONE + 1;

        final Pond pond;
        final Numbering numbering;
        final Search search;
        final int[] begins = new int[LEVELS + 1];
        final int[] sorted = new int[MOST_ENDING_ORDERS];
        final int[] mosts = new int[MOST_ENDING_ORDERS];
        final int[] winners = new int[MOST_ENDING_ORDERS];
        int settledLook;

        Ending(Pond pond, Numbering numbering, Search search) {
            this.pond = pond;
            this.numbering = numbering;
            this.search = search;
        }

        void settleFrom(int order) {
            search.lookFrom(order);
            if (settledLook == search.looks) {
                return;
            }
            sortByLevel();
            for (int i = Math.min(search.reached, MOST_ENDING_ORDERS) - 1; i >= 0; i--) {
                settle(sorted[i]);
            }
            settledLook = search.looks;
        }

        // Each move goes to a higher level, so an order's moves are settled ahead of it.
        private void sortByLevel() {
            int many = Math.min(search.reached, MOST_ENDING_ORDERS);
            Arrays.fill(begins, 0);
            for (int i = 0; i < many; i++) {
                begins[levelOf(search.orders[i]) + 1]++;
            }
            for (int level = 1; level <= LEVELS; level++) {
                begins[level] += begins[level - 1];
            }
            for (int i = 0; i < many; i++) {
                int level = levelOf(search.orders[i]);
                int place = begins[level];
                if (place < MOST_ENDING_ORDERS) {
                    sorted[place] = search.orders[i];
                    begins[level]++;
                }
            }
        }

        private int levelOf(int order) {
            int gone = MOST_GONE;
            for (int stone = 0; stone < pond.size; stone++) {
                int kind = kindAt(order, stone);
                if (kind == GREEN) {
                    gone += pond.depthOf(stone);
                } else if (kind == BROWN) {
                    gone -= pond.depthOf(stone);
                }
            }
            return Math.max(0, Math.min(gone, LEVELS - 1));
        }

        private void settle(int order) {
            int here = numbering.numberOf(order);
            if (!isNumber(here)) {
                return;
            }
            int most = 0;
            int winning = 0;
            for (int from = 0; from < pond.size; from++) {
                int kind = kindAt(order, from);
                for (int to = 0; to < pond.size; to++) {
                    if (pond.isMove(order, from, to)) {
                        int next = afterMove(order, from, to);
                        most = Math.max(most, mostMovesFrom(next) + 1);
                        if (!wins(next, otherColour(kind))) {
                            winning |= kind;
                        }
                    }
                }
            }
            mosts[here] = most;
            winners[here] = winning;
        }

        private boolean isNumber(int number) {
            return number >= 0 && number < MOST_ENDING_ORDERS;
        }

        private static int otherColour(int colour) {
            return colour == GREEN ? BROWN : GREEN;
        }

        int mostMovesFrom(int order) {
            int number = numbering.numberOf(order);
            return isNumber(number) ? mosts[number] : 0;
        }

        boolean wins(int order, int colour) {
            int number = numbering.numberOf(order);
            return isNumber(number) && (winners[number] & colour) != 0;
        }

        int winningMove(int order, int colour) {
            for (int from = 0; from < pond.size; from++) {
                if (kindAt(order, from) != colour) {
                    continue;
                }
                for (int to = 0; to < pond.size; to++) {
                    if (pond.isMove(order, from, to)
                        && !wins(afterMove(order, from, to), otherColour(colour))) {
                        return FROM_WEIGHT * from + to;
                    }
                }
            }
            return NONE;
        }
    }

    /** CHILDREN: how likely an order is behind some times, and one child's play by a SEED. */
    private static final class Chance {
        final Pond pond;
        final Numbering numbering;
        final Search search;
        final int[] evens = new int[MOST_ORDERS];
        final int[] odds = new int[MOST_ORDERS];
        int playedOrder;
        int playedMoves;
        int playedSeed;

        Chance(Pond pond, Numbering numbering, Search search) {
            this.pond = pond;
            this.numbering = numbering;
            this.search = search;
        }

        // Of all rows of so many frogs, how many end at the aim.
        int rowsEndingAt(int aimed, int start, int times) {
            search.lookFrom(start);
            Arrays.fill(evens, 0);
            int first = numbering.numberOf(start);
            int last = numbering.numberOf(aimed);
            if (!isNumber(first) || !isNumber(last)) {
                return 0;
            }
            evens[first] = 1;
            for (int time = 0; time < times; time++) {
                spread(time);
            }
            return times % 2 == 0 ? evens[last] : odds[last];
        }

        private void spread(int time) {
            int[] before = time % 2 == 0 ? evens : odds;
            int[] behind = time % 2 == 0 ? odds : evens;
            Arrays.fill(behind, 0);
            for (int i = 0; i < search.reached && i < MOST_ORDERS; i++) {
                int order = search.orders[i];
                int number = numbering.numberOf(order);
                if (isNumber(number) && before[number] != 0) {
                    hand(order, before[number], behind);
                }
            }
        }

        private void hand(int order, int rows, int[] behind) {
            for (int stone = 0; stone < pond.size; stone++) {
                if (kindAt(order, stone) != NOBODY) {
                    int there = numbering.numberOf(pond.afterLeastMove(order, stone));
                    if (isNumber(there)) {
                        behind[there] += rows;
                    }
                }
            }
        }

        private boolean isNumber(int number) {
            return number >= 0 && number < MOST_ORDERS;
        }

        void play(int start, int times, int seed) {
            int frogs = frogsOf(start);
            playedOrder = start;
            playedMoves = 0;
            playedSeed = seed;
            for (int time = 0; time < times && frogs > 0; time++) {
                playedSeed = nextSeed(playedSeed);
                int frog = stoneOfFrog(playedOrder, (playedSeed / 65536) % frogs);
                int next = pond.afterLeastMove(playedOrder, frog);
                if (next != playedOrder) {
                    playedMoves++;
                }
                playedOrder = next;
            }
        }

        private static int nextSeed(int seed) {
            return (int) ((1103515245L * seed + 12345L) & 0x7fffffffL);
        }

        private static int stoneOfFrog(int order, int number) {
            int passed = 0;
            for (int stone = 0; stone < MOST_STONES; stone++) {
                if (kindAt(order, stone) != NOBODY) {
                    if (passed == number) {
                        return stone;
                    }
                    passed++;
                }
            }
            return 0;
        }
    }

    /** An ORDER and the MOVES made up to it. */
    private static final class Course {
        final int[] froms = new int[MOST_MADE];
        final int[] tos = new int[MOST_MADE];
        int made;
        int order;

        void begin(int first) {
            made = 0;
            order = first;
        }

        void make(int from, int to) {
            if (made < MOST_MADE) {
                froms[made] = from;
                tos[made] = to;
                made++;
                order = afterMove(order, from, to);
            }
        }

        void unmake() {
            if (made > 0) {
                made--;
                order = afterMove(order, tos[made], froms[made]);
            }
        }

        void copy(Course other) {
            System.arraycopy(other.froms, 0, froms, 0, MOST_MADE);
            System.arraycopy(other.tos, 0, tos, 0, MOST_MADE);
            made = other.made;
            order = other.order;
        }
    }
}
