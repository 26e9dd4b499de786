import java.util.Arrays;

/**
 * Frogs on stones in a ring, a row or a tree: their moves, orders, games and children.
 * README.md says how to use it.
 */
public final class FrogsOnRing {
    public static final int NONE = -1, UNKNOWN = -101, OUTSIDE = -102, STATE = -103, FULL = -104;

    private static final int NOBODY = 0;
    private static final int GREEN = 1;
    private static final int BROWN = 2;
    private static final int YELLOW = 3;
    private static final int LAST_KIND = 3;

    private static final int MOST_STONES = 9;
    private static final int MOST_LETTERS = 24;
    private static final int MOST_LETTERS_A_CALL = 8;
    private static final int GREATEST_LETTER = 126;
    private static final int MOST_MADE = 60;
    private static final int LAST_NTH = 63;
    private static final int MOST_LUCK_TIMES = 6;
    private static final int MOST_CHILD_TIMES = 99;
    private static final int CHILD_MOVES = 9;
    private static final int CHILD_SEED = 10;
    private static final int COUNTS = 8;
    private static final int FROM_WEIGHT = 16;

    // 9! / (3! 2! 2! 2!): no nine stones have more orders; without yellows 9! / (3! 3! 3!).
    private static final int MOST_ORDERS = 7560;
    private static final int MOST_ENDING_ORDERS = 1680;

    private final Page page;
    private final Reading reading;
    private final Pond pond;
    private final Moves moves;
    private final Numbering numbering;
    private final Search search;
    private final Ending ending;
    private final Chance chance;
    private final Course now;
    private final Course kept;
    private boolean keptStands;
    private int aimed;
    private boolean hasAim;
    private int reads;

    public FrogsOnRing() {
        page = new Page();
        reading = new Reading();
        pond = new Pond();
        moves = new Moves(pond);
        numbering = new Numbering();
        search = new Search(pond, moves, numbering);
        ending = new Ending(pond, moves, numbering, search);
        chance = new Chance(pond, moves, numbering, search);
        now = new Course();
        kept = new Course();
    }

    // ---- texts

    public int letters(long w) {
        int fresh = Page.lettersIn(w);
        if (fresh == OUTSIDE) {
            return OUTSIDE;
        }
        if (page.size + fresh > MOST_LETTERS) {
            return FULL;
        }
        page.append(w, fresh);
        return page.size;
    }

    public int blank() {
        int had = page.size;
        page.clear();
        return had;
    }

    public int fault() {
        reading.read(page);
        return reading.place;
    }

    public int stones() {
        reading.read(page);
        if (!reading.whole) {
            return STATE;
        }
        pond.lay(reading, page);
        now.begin(page.orderAt(reading.first, pond.size));
        numbering.prepare(now.order, pond.size);
        search.forget();
        keptStands = false;
        hasAim = false;
        reads++;
        page.clear();
        return pond.size;
    }

    public int aim() {
        if (noStones() || !pageIsAim()) {
            return STATE;
        }
        aimed = page.orderAt(0, pond.size);
        hasAim = true;
        page.clear();
        return frogsOf(aimed);
    }

    public int stone(int stone, int what) {
        if (!isStone(stone)) {
            return UNKNOWN;
        }
        switch (what) {
            case 0:
                return kindToldOf(now.order, stone);
            case 1:
                return pond.behind(stone);
            case 2:
                return hasAim ? kindToldOf(aimed, stone) : NONE;
            default:
                return OUTSIDE;
        }
    }

    public int as(int stone, int kind) {
        if (!isStone(stone)) {
            return UNKNOWN;
        }
        if (kind < 0 || kind > LAST_KIND) {
            return OUTSIDE;
        }
        return isOfKind(kindAt(now.order, stone), kind) ? stone : NONE;
    }

    // ---- moves

    public int can(int from, int to) {
        if (!isStone(from) || !isStone(to)) {
            return UNKNOWN;
        }
        moves.find(now.order);
        return moves.has(from, to) ? 1 : 0;
    }

    public int move(int from, int to) {
        if (!isStone(from) || !isStone(to)) {
            return UNKNOWN;
        }
        moves.find(now.order);
        if (!moves.has(from, to)) {
            return STATE;
        }
        if (now.made >= MOST_MADE) {
            return FULL;
        }
        now.make(from, to);
        return now.made;
    }

    public int back() {
        if (now.made == 0) {
            return STATE;
        }
        now.unmake();
        return now.made;
    }

    public int many() {
        if (noStones()) {
            return STATE;
        }
        moves.find(now.order);
        return moves.total();
    }

    public int nth(int i) {
        if (noStones()) {
            return STATE;
        }
        if (i < 0 || i > LAST_NTH) {
            return OUTSIDE;
        }
        moves.find(now.order);
        return moves.told(i);
    }

    // ---- other orders

    public int fewest() {
        if (!hasAim) {
            return STATE;
        }
        search.lookFrom(now.order);
        return search.stepsTo(aimed);
    }

    public long ways() {
        if (!hasAim) {
            return STATE;
        }
        search.lookFrom(now.order);
        return search.waysTo(aimed);
    }

    public int by() {
        if (!hasAim) {
            return STATE;
        }
        search.lookFrom(now.order);
        return search.firstMoveTo(aimed);
    }

    public int reach(int what) {
        if (noStones()) {
            return STATE;
        }
        if (what < 0 || what > 2) {
            return OUTSIDE;
        }
        search.lookFrom(now.order);
        if (what == 0) {
            return search.reached;
        }
        return what == 1 ? search.stuck : search.farthest;
    }

    public int longest() {
        if (!isEnding()) {
            return STATE;
        }
        ending.settleFrom(now.order);
        return ending.mostMovesFrom(now.order);
    }

    public int game(int who, int what) {
        if (!isEnding()) {
            return STATE;
        }
        if (who < 0 || who > 1 || what < 0 || what > 1) {
            return OUTSIDE;
        }
        ending.settleFrom(now.order);
        int colour = who == 0 ? GREEN : BROWN;
        if (what == 0) {
            return ending.wins(now.order, colour) ? 1 : 0;
        }
        return ending.winningMove(now.order, colour);
    }

    // ---- children, turns

    public int luck(int times, int part) {
        if (!hasAim || frogsOf(now.order) == 0) {
            return STATE;
        }
        if (times < 0 || times > MOST_LUCK_TIMES || part < 0 || part > 1) {
            return OUTSIDE;
        }
        int below = power(frogsOf(now.order), times);
        int above = chance.rowsEndingAt(aimed, now.order, times);
        int shared = greatestShared(above, below);
        if (shared == 0) {
            return 0;
        }
        return part == 0 ? above / shared : below / shared;
    }

    public int child(int times, int seed, int what) {
        if (noStones() || frogsOf(now.order) == 0) {
            return STATE;
        }
        if (times < 1 || times > MOST_CHILD_TIMES || seed < 0 || what < 0 || what > CHILD_SEED) {
            return OUTSIDE;
        }
        chance.play(now.order, times, seed);
        if (what == CHILD_MOVES) {
            return chance.playedMoves;
        }
        if (what == CHILD_SEED) {
            return chance.playedSeed;
        }
        return kindToldOf(chance.playedOrder, what);
    }

    public int alike() {
        if (!hasAim || !pond.isRing) {
            return STATE;
        }
        for (int k = 0; k < pond.size; k++) {
            if (pond.turned(now.order, k) == aimed) {
                return k;
            }
        }
        return NONE;
    }

    public int kinds() {
        if (noStones() || !pond.isRing) {
            return STATE;
        }
        search.lookFrom(now.order);
        return search.unlikeOrders();
    }

    // ---- what is told

    public int image() {
        if (noStones()) {
            return STATE;
        }
        kept.copy(now);
        keptStands = true;
        return kept.made;
    }

    public int restore() {
        if (!keptStands) {
            return STATE;
        }
        now.copy(kept);
        return now.made;
    }

    public int count(int what) {
        switch (what) {
            case 0:
                return pond.size;
            case 1:
                return frogsOf(now.order);
            case 2:
                return colouredOf(now.order, GREEN);
            case 3:
                return colouredOf(now.order, BROWN);
            case 4:
                return colouredOf(now.order, YELLOW);
            case 5:
                return now.made;
            case 6:
                return page.size;
            case 7:
                return reads;
            default:
                return OUTSIDE;
        }
    }

    public long digest() {
        long h = 563;
        for (int stone = 0; stone < pond.size; stone++) {
            for (int what = 0; what <= 2; what++) {
                h = 31 * h + stone(stone, what);
            }
        }
        if (!noStones()) {
            h = withMoves(h);
            for (int what = 0; what <= 2; what++) {
                h = 31 * h + reach(what);
            }
        }
        if (hasAim) {
            h = 31 * h + fewest();
            h = 31 * h + ways();
            h = 31 * h + by();
        }
        for (int place = 0; place < page.size; place++) {
            h = 31 * h + page.letterAt(place);
        }
        for (int what = 0; what < COUNTS; what++) {
            h = 31 * h + count(what);
        }
        return h;
    }

    private long withMoves(long before) {
        long h = before;
        moves.find(now.order);
        for (int from = 0; from < pond.size; from++) {
            for (int to = 0; to < pond.size; to++) {
                if (moves.has(from, to)) {
                    h = 31 * h + FROM_WEIGHT * from + to;
                }
            }
        }
        return h;
    }

    private boolean noStones() {
        return pond.size == 0;
    }

    private boolean isStone(int stone) {
        return stone >= 0 && stone < pond.size;
    }

    private boolean isEnding() {
        return !noStones() && !pond.isRing && colouredOf(now.order, YELLOW) == 0;
    }

    private boolean pageIsAim() {
        if (page.size != pond.size) {
            return false;
        }
        for (int place = 0; place < page.size; place++) {
            if (kindOfLetter(page.letterAt(place)) == NONE) {
                return false;
            }
        }
        int read = page.orderAt(0, pond.size);
        for (int kind = GREEN; kind <= LAST_KIND; kind++) {
            if (colouredOf(read, kind) != colouredOf(now.order, kind)) {
                return false;
            }
        }
        return true;
    }

    // An order is a number with two bits a stone, stone 0 the lowest: NOBODY, GREEN, BROWN or YELLOW.

    private static int kindAt(int order, int stone) {
        return (order >> (2 * stone)) & 3;
    }

    private static int kindToldOf(int order, int stone) {
        int kind = kindAt(order, stone);
        return kind == NOBODY ? NONE : kind;
    }

    private static int afterMove(int order, int from, int to) {
        int kind = kindAt(order, from);
        return order - (kind << (2 * from)) + (kind << (2 * to));
    }

    private static boolean isOfKind(int frog, int kind) {
        if (frog == NOBODY) {
            return false;
        }
        return kind == 0 || frog == kind || (frog == YELLOW && kind == GREEN);
    }

    // YELLOW has the bits of GREEN and of BROWN, so that a bit tells a way that a frog goes.

    private static boolean goesOn(int kind) {
        return (kind & GREEN) != 0;
    }

    private static boolean goesBack(int kind) {
        return (kind & BROWN) != 0;
    }

    private static int colouredOf(int order, int kind) {
        int found = 0;
        for (int stone = 0; stone < MOST_STONES; stone++) {
            if (kindAt(order, stone) == kind) {
                found++;
            }
        }
        return found;
    }

    private static int frogsOf(int order) {
        return MOST_STONES - colouredOf(order, NOBODY);
    }

    private static int kindOfLetter(int letter) {
        switch (letter) {
            case '.':
                return NOBODY;
            case 'g':
                return GREEN;
            case 'b':
                return BROWN;
            case 'y':
                return YELLOW;
            default:
                return NONE;
        }
    }

    private static int power(int base, int exponent) {
        int product = 1;
        for (int i = 0; i < exponent; i++) {
            product *= base;
        }
        return product;
    }

    private static void fillFirst(int[] row, int many, int number) {
        for (int i = 0; i < many && i < row.length; i++) {
            row[i] = number;
        }
    }

    private static int greatestShared(int one, int other) {
        int a = one;
        int b = other;
        // Euclid's rests halve every two rounds, so an int needs fewer than 64.
        for (int round = 0; round < 64 && b != 0; round++) {
            int rest = a % b;
            a = b;
            b = rest;
        }
        return a;
    }

    /** THE PAGE. */
    private static final class Page {
        final int[] codes = new int[MOST_LETTERS];
        int size;

        static int byteOf(long w, int place) {
            return (int) (w >>> (8 * place)) & 255;
        }

        static int lettersIn(long w) {
            int found = 0;
            boolean ended = false;
            for (int place = 0; place < MOST_LETTERS_A_CALL; place++) {
                int code = byteOf(w, place);
                if (code > GREATEST_LETTER || (ended && code != 0)) {
                    return OUTSIDE;
                }
                if (code == 0) {
                    ended = true;
                } else {
                    found++;
                }
            }
            return found;
        }

        void append(long w, int fresh) {
            for (int place = 0; place < fresh && size < MOST_LETTERS; place++) {
                codes[size] = byteOf(w, place);
                size++;
            }
        }

        void clear() {
            size = 0;
        }

        // 0 behind the last letter: no letter of the page is 0, so it fits no text.
        int letterAt(int place) {
            return place >= 0 && place < size ? codes[place] : 0;
        }

        int orderAt(int first, int stones) {
            int order = 0;
            for (int stone = 0; stone < stones; stone++) {
                int kind = kindOfLetter(letterAt(first + stone));
                if (kind > NOBODY) {
                    order |= kind << (2 * stone);
                }
            }
            return order;
        }
    }

    /** What the page says, read as STONES: how far it fits, and whether it is whole. */
    private static final class Reading {
        int form;
        boolean overOthers;
        boolean overTwo;
        int first;
        int size;
        int place;
        boolean whole;

        void read(Page page) {
            whole = false;
            first = 0;
            size = 0;
            place = 0;
            readForm(page);
            if (place == 0) {
                return;
            }
            overOthers = takes(page, 'o');
            overTwo = takes(page, '2');
            if (!takes(page, ':')) {
                return;
            }
            readStones(page);
            if (size < 2) {
                return;
            }
            boolean fits = form != 't' || readParents(page);
            whole = fits && place == page.size;
        }

        private boolean takes(Page page, int letter) {
            if (page.letterAt(place) != letter) {
                return false;
            }
            place++;
            return true;
        }

        private void readForm(Page page) {
            form = page.letterAt(0);
            if (form == 'r' || form == 'w' || form == 't') {
                place = 1;
            }
        }

        private void readStones(Page page) {
            first = place;
            while (size < MOST_STONES && kindOfLetter(page.letterAt(place)) != NONE) {
                size++;
                place++;
            }
        }

        private boolean readParents(Page page) {
            if (!takes(page, '/')) {
                return false;
            }
            for (int stone = 1; stone < size; stone++) {
                int parent = page.letterAt(place) - '0';
                if (parent < 0 || parent >= stone) {
                    return false;
                }
                place++;
            }
            return true;
        }
    }

    /** How the STONES lie. ON is BACK turned round, so what is BACK of each stone tells all of it. */
    private static final class Pond {
        final int[] behinds = new int[MOST_STONES];
        final int[] depths = new int[MOST_STONES];
        int size;
        boolean isRing;
        boolean overOthers;
        int longestLeap;

        void lay(Reading reading, Page page) {
            size = reading.size;
            isRing = reading.form == 'r';
            overOthers = reading.overOthers;
            longestLeap = reading.overTwo ? 3 : 2;
            behinds[0] = isRing ? size - 1 : NONE;
            depths[0] = 0;
            // The parent of stone 1 stands behind the last stone and the "/".
            int parents = reading.first + size;
            for (int stone = 1; stone < size && stone < MOST_STONES; stone++) {
                int ahead = reading.form == 't' ? page.letterAt(parents + stone) - '0' : stone - 1;
                behinds[stone] = ahead;
                depths[stone] = depthOf(ahead) + 1;
            }
        }

        int behind(int stone) {
            return stone >= 0 && stone < MOST_STONES ? behinds[stone] : NONE;
        }

        int depthOf(int stone) {
            return stone >= 0 && stone < MOST_STONES ? depths[stone] : 0;
        }

        int turned(int order, int k) {
            int all = (1 << (2 * size)) - 1;
            return ((order << (2 * k)) | (order >> (2 * (size - k)))) & all;
        }
    }

    /** The MOVES of one order, those of the order found last. */
    private static final class Moves {
        final Pond pond;
        // Bit "to" of targets[from] tells the move.
        final int[] targets = new int[MOST_STONES];

        Moves(Pond pond) {
            this.pond = pond;
        }

        void find(int order) {
            Arrays.fill(targets, 0);
            for (int stone = 0; stone < pond.size; stone++) {
                int kind = kindAt(order, stone);
                if (kind == NOBODY) {
                    findOnTo(order, stone);
                } else if (goesBack(kind)) {
                    findBackFrom(order, stone, kind);
                }
            }
        }

        private void findOnTo(int order, int to) {
            int at = to;
            int passed = 0;
            for (int leap = 1; leap <= pond.longestLeap; leap++) {
                at = pond.behind(at);
                if (at < 0 || at >= MOST_STONES) {
                    return;
                }
                int kind = kindAt(order, at);
                if (kind == NOBODY) {
                    return;
                }
                boolean overItsOwn = ((passed >> kind) & 1) != 0;
                if (goesOn(kind) && !(pond.overOthers && overItsOwn)) {
                    targets[at] |= 1 << to;
                }
                passed |= 1 << kind;
            }
        }

        private void findBackFrom(int order, int from, int kind) {
            int at = from;
            for (int leap = 1; leap <= pond.longestLeap; leap++) {
                at = pond.behind(at);
                if (at < 0) {
                    return;
                }
                int under = kindAt(order, at);
                if (under == NOBODY) {
                    targets[from] |= 1 << at;
                    return;
                }
                if (pond.overOthers && under == kind) {
                    return;
                }
            }
        }

        int targetsOf(int from) {
            return from >= 0 && from < MOST_STONES ? targets[from] : 0;
        }

        boolean has(int from, int to) {
            return ((targetsOf(from) >> to) & 1) != 0;
        }

        int total() {
            int found = 0;
            for (int from = 0; from < MOST_STONES; from++) {
                found += Integer.bitCount(targets[from]);
            }
            return found;
        }

        int told(int number) {
            int passed = 0;
            for (int from = 0; from < pond.size; from++) {
                for (int to = 0; to < pond.size; to++) {
                    if (has(from, to)) {
                        if (passed == number) {
                            return FROM_WEIGHT * from + to;
                        }
                        passed++;
                    }
                }
            }
            return NONE;
        }

        int afterLeastOf(int order, int from) {
            for (int to = 0; to < pond.size; to++) {
                if (has(from, to)) {
                    return afterMove(order, from, to);
                }
            }
            return order;
        }
    }

    /**
     * Numbers all orders of the same frogs from 0, without gaps. The lower stones leave a mixture of
     * frogs for the four highest ones: an order's number is how many orders have lesser lower stones,
     * and how many lesser ways the highest ones have to hold their mixture.
     */
    private static final class Numbering {
        static final int HIGH_STONES = 4;
        static final int HIGHS = 256;
        static final int LOWS = 1024;
        static final int MIXTURES = 125;

        final int[] lowStarts = new int[LOWS];
        final int[] highNumbers = new int[HIGHS];
        final int[] mixtureSizes = new int[MIXTURES];
        int lowBits;
        int all;

        void prepare(int order, int stones) {
            int high = Math.min(stones, HIGH_STONES);
            lowBits = 2 * (stones - high);
            Arrays.fill(mixtureSizes, 0);
            numberHighs(1 << (2 * high));
            numberLows(1 << lowBits, order);
        }

        private void numberHighs(int highs) {
            for (int high = 0; high < highs && high < HIGHS; high++) {
                int mixture = mixtureOf(tally(high), 0);
                if (mixture != NONE) {
                    highNumbers[high] = mixtureSizes[mixture];
                    mixtureSizes[mixture]++;
                }
            }
        }

        private void numberLows(int lows, int order) {
            int whole = tally(order);
            int begun = 0;
            for (int low = 0; low < lows && low < LOWS; low++) {
                lowStarts[low] = begun;
                int mixture = mixtureOf(whole, tally(low));
                if (mixture != NONE) {
                    begun += mixtureSizes[mixture];
                }
            }
            all = Math.min(begun, MOST_ORDERS);
        }

        // How many greens, browns and yellows, a byte each.
        private static int tally(int order) {
            int sum = 0;
            for (int stone = 0; stone < MOST_STONES; stone++) {
                sum += 1 << (8 * kindAt(order, stone));
            }
            // Nobody is counted in the lowest byte, and left out.
            return sum >> 8;
        }

        // No mixture has more frogs of a colour than there are highest stones, so each is one of five.
        private static int mixtureOf(int whole, int taken) {
            int mixture = 0;
            for (int shift = 0; shift <= 16; shift += 8) {
                int left = ((whole >> shift) & 255) - ((taken >> shift) & 255);
                if (left < 0 || left > HIGH_STONES) {
                    return NONE;
                }
                mixture = mixture * (HIGH_STONES + 1) + left;
            }
            return mixture;
        }

        // NONE, or below the length of a row with a place for each order.
        int numberOf(int order) {
            int low = order & ((1 << lowBits) - 1);
            int high = order >> lowBits;
            if (low < 0 || low >= LOWS || high < 0 || high >= HIGHS) {
                return NONE;
            }
            int number = lowStarts[low] + highNumbers[high];
            return number < all ? number : NONE;
        }
    }

    /** All orders that can be come to from one, by fewest moves; kept until another order is asked. */
    private static final class Search {
        final Pond pond;
        final Moves moves;
        final Numbering numbering;
        // The orders in the row in which they were met; all else by their numbers.
        final int[] orders = new int[MOST_ORDERS];
        final int[] steps = new int[MOST_ORDERS];
        final long[] rows = new long[MOST_ORDERS];
        final int[] firsts = new int[MOST_ORDERS];
        int start;
        boolean stands;
        int looks;
        int reached;
        int stuck;
        int farthest;

        Search(Pond pond, Moves moves, Numbering numbering) {
            this.pond = pond;
            this.moves = moves;
            this.numbering = numbering;
        }

        void forget() {
            stands = false;
        }

        void lookFrom(int order) {
            if (stands && start == order) {
                return;
            }
            fillFirst(steps, numbering.all, NONE);
            reached = 0;
            stuck = 0;
            farthest = 0;
            int here = numbering.numberOf(order);
            if (here != NONE) {
                meet(order, here, 0, NONE);
                rows[here] = 1;
            }
            for (int i = 0; i < reached && i < MOST_ORDERS; i++) {
                goOnFrom(orders[i]);
            }
            start = order;
            stands = true;
            looks++;
        }

        private void goOnFrom(int order) {
            int here = numbering.numberOf(order);
            moves.find(order);
            boolean moved = false;
            for (int from = 0; from < pond.size; from++) {
                if (moves.targetsOf(from) != 0) {
                    moved = true;
                    goOnBy(order, here, from);
                }
            }
            if (!moved) {
                stuck++;
            }
        }

        private void goOnBy(int order, int here, int from) {
            for (int to = 0; to < pond.size; to++) {
                if (moves.has(from, to)) {
                    join(here, afterMove(order, from, to), FROM_WEIGHT * from + to);
                }
            }
        }

        private void join(int here, int next, int move) {
            int there = numbering.numberOf(next);
            if (here == NONE || there == NONE) {
                return;
            }
            int step = steps[here] + 1;
            int first = step == 1 ? move : firsts[here];
            if (steps[there] == NONE) {
                meet(next, there, step, first);
            }
            if (steps[there] == step) {
                rows[there] += rows[here];
                firsts[there] = Math.min(firsts[there], first);
            }
        }

        private void meet(int order, int number, int step, int first) {
            if (reached >= MOST_ORDERS) {
                return;
            }
            steps[number] = step;
            rows[number] = 0;
            firsts[number] = first;
            orders[reached] = order;
            reached++;
            farthest = step;
        }

        int stepsTo(int order) {
            int number = numbering.numberOf(order);
            return number == NONE ? NONE : steps[number];
        }

        long waysTo(int order) {
            int number = numbering.numberOf(order);
            return number == NONE || steps[number] == NONE ? 0 : rows[number];
        }

        int firstMoveTo(int order) {
            int number = numbering.numberOf(order);
            return number == NONE || steps[number] == NONE ? NONE : firsts[number];
        }

        int unlikeOrders() {
            int found = 0;
            for (int i = 0; i < reached && i < MOST_ORDERS; i++) {
                if (isLeastOfItsTurns(orders[i])) {
                    found++;
                }
            }
            return found;
        }

        // Of orders that are alike just the least one that was come to counts.
        private boolean isLeastOfItsTurns(int order) {
            for (int k = 1; k < pond.size; k++) {
                int other = pond.turned(order, k);
                if (other < order && stepsTo(other) != NONE) {
                    return false;
                }
            }
            return true;
        }
    }

    /** LONGEST and GAME of all orders that can be come to, the last ones first. */
    private static final class Ending {
        // Nine frogs at depth eight at most, browns below and greens above.
        static final int MOST_GONE = 72;
        static final int LEVELS = 2 * MOST_GONE + 1;

        final Pond pond;
        final Moves moves;
        final Numbering numbering;
        final Search search;
        final int[] levelEnds = new int[LEVELS];
        final int[] sorted = new int[MOST_ENDING_ORDERS];
        final int[] mosts = new int[MOST_ENDING_ORDERS];
        // The bits of the colours that win if they begin.
        final int[] winners = new int[MOST_ENDING_ORDERS];
        int settledLook;

        Ending(Pond pond, Moves moves, Numbering numbering, Search search) {
            this.pond = pond;
            this.moves = moves;
            this.numbering = numbering;
            this.search = search;
        }

        void settleFrom(int order) {
            search.lookFrom(order);
            if (settledLook == search.looks) {
                return;
            }
            sortByLevel();
            for (int i = Math.min(search.reached, MOST_ENDING_ORDERS) - 1; i >= 0; i--) {
                settle(sorted[i]);
            }
            settledLook = search.looks;
        }

        // Each move leads to a higher level: from the highest down all that it leads to is settled.
        private void sortByLevel() {
            int many = Math.min(search.reached, MOST_ENDING_ORDERS);
            Arrays.fill(levelEnds, 0);
            for (int i = 0; i < many; i++) {
                levelEnds[levelOf(search.orders[i])]++;
            }
            for (int level = 1; level < LEVELS; level++) {
                levelEnds[level] += levelEnds[level - 1];
            }
            for (int i = 0; i < many; i++) {
                int level = levelOf(search.orders[i]);
                levelEnds[level]--;
                int place = levelEnds[level];
                if (place >= 0 && place < MOST_ENDING_ORDERS) {
                    sorted[place] = search.orders[i];
                }
            }
        }

        private int levelOf(int order) {
            int gone = MOST_GONE;
            for (int stone = 0; stone < pond.size; stone++) {
                int kind = kindAt(order, stone);
                if (kind == GREEN) {
                    gone += pond.depthOf(stone);
                } else if (kind == BROWN) {
                    gone -= pond.depthOf(stone);
                }
            }
            return Math.max(0, Math.min(gone, LEVELS - 1));
        }

        private void settle(int order) {
            int most = 0;
            int winning = 0;
            moves.find(order);
            for (int from = 0; from < pond.size; from++) {
                int kind = kindAt(order, from);
                for (int to = 0; to < pond.size; to++) {
                    if (moves.has(from, to)) {
                        int next = afterMove(order, from, to);
                        most = Math.max(most, mostMovesFrom(next) + 1);
                        if (!wins(next, otherColour(kind))) {
                            winning |= kind;
                        }
                    }
                }
            }
            int here = numbering.numberOf(order);
            if (hasPlace(here)) {
                mosts[here] = most;
                winners[here] = winning;
            }
        }

        private static boolean hasPlace(int number) {
            return number >= 0 && number < MOST_ENDING_ORDERS;
        }

        private static int otherColour(int colour) {
            return colour == GREEN ? BROWN : GREEN;
        }

        int mostMovesFrom(int order) {
            int number = numbering.numberOf(order);
            return hasPlace(number) ? mosts[number] : 0;
        }

        boolean wins(int order, int colour) {
            int number = numbering.numberOf(order);
            return hasPlace(number) && (winners[number] & colour) != 0;
        }

        int winningMove(int order, int colour) {
            moves.find(order);
            for (int from = 0; from < pond.size; from++) {
                if (kindAt(order, from) == colour) {
                    int to = winningTarget(order, from, colour);
                    if (to != NONE) {
                        return FROM_WEIGHT * from + to;
                    }
                }
            }
            return NONE;
        }

        private int winningTarget(int order, int from, int colour) {
            for (int to = 0; to < pond.size; to++) {
                if (moves.has(from, to) && !wins(afterMove(order, from, to), otherColour(colour))) {
                    return to;
                }
            }
            return NONE;
        }
    }

    /** CHILDREN: how likely an order is behind some times, and one child's play by a SEED. */
    private static final class Chance {
        final Pond pond;
        final Moves moves;
        final Numbering numbering;
        final Search search;
        // How many rows of frogs lead to each order by an even, and by an odd number of times.
        final int[] evens = new int[MOST_ORDERS];
        final int[] odds = new int[MOST_ORDERS];
        int playedOrder;
        int playedMoves;
        int playedSeed;

        Chance(Pond pond, Moves moves, Numbering numbering, Search search) {
            this.pond = pond;
            this.moves = moves;
            this.numbering = numbering;
            this.search = search;
        }

        int rowsEndingAt(int aimed, int start, int times) {
            search.lookFrom(start);
            fillFirst(evens, numbering.all, 0);
            int first = numbering.numberOf(start);
            int last = numbering.numberOf(aimed);
            if (first == NONE || last == NONE) {
                return 0;
            }
            evens[first] = 1;
            for (int time = 0; time < times; time++) {
                if (time % 2 == 0) {
                    spread(evens, odds);
                } else {
                    spread(odds, evens);
                }
            }
            return times % 2 == 0 ? evens[last] : odds[last];
        }

        private void spread(int[] before, int[] behind) {
            fillFirst(behind, numbering.all, 0);
            for (int i = 0; i < search.reached && i < MOST_ORDERS; i++) {
                int order = search.orders[i];
                int number = numbering.numberOf(order);
                if (number != NONE && before[number] != 0) {
                    letEachGo(order, before[number], behind);
                }
            }
        }

        private void letEachGo(int order, int rows, int[] behind) {
            moves.find(order);
            for (int stone = 0; stone < pond.size; stone++) {
                if (kindAt(order, stone) != NOBODY) {
                    int there = numbering.numberOf(moves.afterLeastOf(order, stone));
                    if (there != NONE) {
                        behind[there] += rows;
                    }
                }
            }
        }

        void play(int start, int times, int seed) {
            int frogs = frogsOf(start);
            playedOrder = start;
            playedMoves = 0;
            playedSeed = seed;
            for (int time = 0; time < times && frogs > 0; time++) {
                playedSeed = nextSeed(playedSeed);
                int frog = stoneOfFrog(playedOrder, (playedSeed / 65536) % frogs);
                moves.find(playedOrder);
                if (moves.targetsOf(frog) != 0) {
                    playedOrder = moves.afterLeastOf(playedOrder, frog);
                    playedMoves++;
                }
            }
        }

        private static int nextSeed(int seed) {
            return (int) ((1103515245L * seed + 12345L) & 0x7fffffffL);
        }

        private static int stoneOfFrog(int order, int number) {
            int passed = 0;
            for (int stone = 0; stone < MOST_STONES; stone++) {
                if (kindAt(order, stone) != NOBODY) {
                    if (passed == number) {
                        return stone;
                    }
                    passed++;
                }
            }
            return NONE;
        }
    }

    /** An ORDER and the MOVES made up to it. */
    private static final class Course {
        final int[] froms = new int[MOST_MADE];
        final int[] tos = new int[MOST_MADE];
        int made;
        int order;

        void begin(int first) {
            made = 0;
            order = first;
        }

        void make(int from, int to) {
            if (made < MOST_MADE) {
                froms[made] = from;
                tos[made] = to;
                made++;
                order = afterMove(order, from, to);
            }
        }

        void unmake() {
            if (made > 0) {
                made--;
                order = afterMove(order, tos[made], froms[made]);
            }
        }

        void copy(Course other) {
            System.arraycopy(other.froms, 0, froms, 0, MOST_MADE);
            System.arraycopy(other.tos, 0, tos, 0, MOST_MADE);
            made = other.made;
            order = other.order;
        }
    }
}
