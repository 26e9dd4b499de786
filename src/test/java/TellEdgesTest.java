import java.math.BigInteger;

/** The sentences about what is told (promises 24 to 27) that name an edge, each with a test of its own. */
public final class TellEdgesTest {
    private static final int NONE = FrogsOnRing.NONE;
    private static final int OUTSIDE = FrogsOnRing.OUTSIDE;
    private static final int STATE = FrogsOnRing.STATE;
    private static final int FULL = FrogsOnRing.FULL;
    private static final int MIN = Integer.MIN_VALUE;
    private static final int MAX = Integer.MAX_VALUE;

    private static void standsAs(FrogsOnRing x, String letters) {
        for (int stone = 0; stone < letters.length(); stone++) {
            int kind = ".gby".indexOf(letters.charAt(stone));
            Due.is(x.stone(stone, 0), kind == 0 ? NONE : kind);
        }
    }

    // ---- 24, 25

    private static void imageWithoutStones() {
        Due.says("24: STATE: no STONES");
        FrogsOnRing x = new FrogsOnRing();
        Due.is(x.image(), STATE);
        Due.is(x.restore(), STATE);
        Due.write(x, "w:g.");
        x.stones();
        Due.is(x.restore(), STATE);
    }

    private static void theLatestImage() {
        Due.says("24: an IMAGE is kept (one; the latest): how many MOVES were made");
        FrogsOnRing x = Due.stones("w:g...");
        Due.is(x.image(), 0);
        x.move(0, 1);
        Due.is(x.image(), 1);
        Due.is(x.count(5), 1);
        x.move(1, 2);
        Due.is(x.image(), 2);
        x.move(2, 3);
        Due.is(x.restore(), 2);
        standsAs(x, "..g.");
        x.back();
        x.back();
        Due.is(x.image(), 0);
        x.move(0, 1);
        Due.is(x.restore(), 0);
        standsAs(x, "g...");
        Due.is(x.back(), STATE);
    }

    private static void imageOfSixty() {
        Due.says("24, 25: an IMAGE with 60 MOVES made");
        FrogsOnRing x = Due.stones("r:g..");
        for (int made = 0; made < 60; made++) {
            x.move(made % 3, (made + 1) % 3);
        }
        Due.is(x.image(), 60);
        for (int made = 59; made >= 50; made--) {
            Due.is(x.back(), made);
        }
        Due.is(x.restore(), 60);
        Due.is(x.move(0, 1), FULL);
        for (int made = 59; made >= 0; made--) {
            Due.is(x.back(), made);
            Due.is(x.stone(made % 3, 0), 1);
        }
        Due.is(x.back(), STATE);
        Due.is(x.restore(), 60);
    }

    private static void noneWasKept() {
        Due.says("25: STATE: none was kept; that changes nothing");
        FrogsOnRing x = Due.aiming("w:g..", "..g");
        x.move(0, 1);
        long before = x.digest();
        Due.is(x.restore(), STATE);
        Due.is(x.digest(), before);
        Due.is(x.back(), 0);
    }

    private static void otherStonesSince() {
        Due.says("25: STATE: there are other STONES since");
        for (String stones : new String[] {"w:g..", "r:b....", "w:..", "t:g../00"}) {
            FrogsOnRing x = Due.stones("w:g..");
            x.move(0, 1);
            x.image();
            Due.write(x, stones);
            x.stones();
            long before = x.digest();
            Due.is(x.restore(), STATE);
            Due.is(x.digest(), before);
            Due.is(x.count(5), 0);
            Due.is(x.image(), 0);
            Due.is(x.restore(), 0);
        }
        Due.says("25: STONES that were refused, and an AIM, are no other STONES");
        FrogsOnRing x = Due.stones("w:g..");
        x.move(0, 1);
        x.image();
        x.move(1, 2);
        Due.write(x, "w:g");
        Due.is(x.stones(), STATE);
        Due.is(x.blank(), 3);
        Due.write(x, "..g");
        Due.is(x.aim(), 1);
        Due.is(x.restore(), 1);
        Due.is(x.fewest(), 1);
    }

    private static void goesOnFromTheImage() {
        Due.says("25: it goes on from the IMAGE (the MOVES made are those that were then), again and again");
        FrogsOnRing x = Due.stones("r:y...");
        x.move(0, 1);
        x.move(1, 2);
        x.image();
        x.back();
        x.back();
        x.move(0, 3);
        x.move(3, 2);
        x.move(2, 1);
        for (int time = 0; time < 3; time++) {
            Due.is(x.restore(), 2);
            Due.is(x.restore(), 2);
            standsAs(x, "..y.");
            Due.is(x.count(5), 2);
            Due.is(x.back(), 1);
            standsAs(x, ".y..");
            Due.is(x.back(), 0);
            standsAs(x, "y...");
            Due.is(x.back(), STATE);
            x.move(0, 3);
        }
        Due.says("25: other calls go on from it, too");
        x = Due.aiming("w:g..", "..g");
        x.image();
        x.move(0, 1);
        Due.is(x.fewest(), 1);
        Due.is(x.reach(0), 2);
        Due.is(x.longest(), 1);
        x.restore();
        Due.is(x.fewest(), 2);
        Due.is(x.reach(0), 3);
        Due.is(x.longest(), 2);
        Due.says("25: THE PAGE and THE AIM are not of it");
        Due.write(x, ".g.");
        x.aim();
        Due.write(x, "abc");
        Due.is(x.restore(), 0);
        Due.is(x.stone(1, 2), 1);
        Due.is(x.count(6), 3);
    }

    // ---- 26

    private static void counts(FrogsOnRing x, int... due) {
        for (int what = 0; what < 8; what++) {
            Due.is(x.count(what), due[what]);
        }
    }

    private static void count() {
        Due.says("26: OUTSIDE: what (0 to 7)");
        FrogsOnRing none = new FrogsOnRing();
        FrogsOnRing x = Due.stones("w:gb.");
        for (int what : new int[] {-1, 8, 9, 100, MIN, MAX}) {
            Due.is(x.count(what), OUTSIDE);
            Due.is(none.count(what), OUTSIDE);
        }
        Due.says("26: without STONES");
        counts(none, 0, 0, 0, 0, 0, 0, 0, 0);
        Due.write(none, "w:g");
        counts(none, 0, 0, 0, 0, 0, 0, 3, 0);
        Due.says("26: STONES, FROGS, GREENS, BROWNS, YELLOWS");
        counts(Due.stones("r:.."), 2, 0, 0, 0, 0, 0, 0, 1);
        counts(Due.stones("r:ggggggggg"), 9, 9, 9, 0, 0, 0, 0, 1);
        counts(Due.stones("r:bbbbbbbbb"), 9, 9, 0, 9, 0, 0, 0, 1);
        counts(Due.stones("r:yyyyyyyyy"), 9, 9, 0, 0, 9, 0, 0, 1);
        counts(Due.stones("r:gbbyyy..."), 9, 6, 1, 2, 3, 0, 0, 1);
        Due.says("26: MOVES made, letters of THE PAGE, how often STONES were read");
        x.move(0, 2);
        Due.write(x, "w:gb.y.g.b.");
        counts(x, 3, 2, 1, 1, 0, 1, 11, 1);
        Due.is(x.stones(), 9);
        counts(x, 9, 5, 2, 2, 1, 0, 0, 2);
        Due.is(x.stones(), STATE);
        Due.is(x.count(7), 2);
        for (int reads = 3; reads <= 60; reads++) {
            Due.write(x, "w:g.");
            x.stones();
            Due.is(x.count(7), reads);
        }
    }

    // ---- 27

    // The numbers by their rule without wrapping, which is done once at the end.
    private static long folded(long... numbers) {
        BigInteger h = BigInteger.valueOf(563);
        for (long number : numbers) {
            h = h.multiply(BigInteger.valueOf(31)).add(BigInteger.valueOf(number));
        }
        return h.longValue();
    }

    private static void digestWithoutStones() {
        Due.says("27: without STONES, with an empty PAGE");
        FrogsOnRing x = new FrogsOnRing();
        Due.is(x.digest(), 563L * 31 * 31 * 31 * 31 * 31 * 31 * 31 * 31);
        Due.is(x.digest(), folded(0, 0, 0, 0, 0, 0, 0, 0));
        Due.says("27: without STONES, letters of THE PAGE");
        Due.write(x, "a~");
        Due.is(x.digest(), folded('a', '~', 0, 0, 0, 0, 0, 0, 2, 0));
        x.letters(1);
        Due.is(x.digest(), folded('a', '~', 1, 0, 0, 0, 0, 0, 0, 3, 0));
        x.blank();
        Due.is(x.digest(), folded(0, 0, 0, 0, 0, 0, 0, 0));
    }

    private static void digestWraps() {
        Due.says("27: as longs, wrapping: the most numbers of a PAGE that do not wrap, and one more");
        FrogsOnRing x = new FrogsOnRing();
        Due.write(x, "~~");
        Due.is(x.digest(), 464889582233153137L);
        Due.write(x, "~");
        Due.is(x.digest(), -4035059560211088632L);
        Due.says("27: as longs, wrapping again and again");
        Due.write(x, "~~~~~~~~~~~~~~~~~~~~~");
        long[] page = new long[32];
        java.util.Arrays.fill(page, 0, 24, '~');
        page[30] = 24;
        Due.is(x.digest(), folded(page));
        Due.is(x.digest(), 9042080810966996507L);
        x = Due.stones("r:.........");
        long[] stones = new long[38];
        java.util.Arrays.fill(stones, 0, 27, NONE);
        for (int stone = 0; stone < 9; stone++) {
            stones[3 * stone + 1] = (stone + 8) % 9;
        }
        stones[27] = 1;
        stones[28] = 1;
        stones[29] = 0;
        stones[30] = 9;
        stones[37] = 1;
        Due.is(x.digest(), folded(stones));
    }

    private static void digestByParts() {
        Due.says("27: without an AIM: no FEWEST, WAYS, BY");
        FrogsOnRing x = Due.stones("w:g.");
        Due.is(x.digest(), folded(1, -1, -1, -1, 0, -1, 1, 2, 1, 1, 2, 1, 1, 0, 0, 0, 0, 1));
        Due.says("27: without MOVES");
        Due.is(Due.stones("w:.g").digest(), folded(-1, -1, -1, 1, 0, -1, 1, 1, 0, 2, 1, 1, 0, 0, 0, 0, 1));
        Due.says("27: with an AIM");
        Due.write(x, ".g");
        x.aim();
        Due.is(x.digest(), folded(1, -1, -1, -1, 0, 1, 1, 2, 1, 1, 1, 1, 1, 2, 1, 1, 0, 0, 0, 0, 1));
        Due.says("27: with an AIM that it is");
        x.move(0, 1);
        Due.is(x.digest(), folded(-1, -1, -1, 1, 0, 1, 1, 1, 0, 0, 1, -1, 2, 1, 1, 0, 0, 1, 0, 1));
        Due.says("27: with an AIM to which it can't");
        Due.write(x, "g.");
        x.aim();
        Due.is(x.digest(), folded(-1, -1, 1, 1, 0, -1, 1, 1, 0, -1, 0, -1, 2, 1, 1, 0, 0, 1, 0, 1));
        Due.says("27: with letters on THE PAGE behind them");
        Due.write(x, "w");
        Due.is(x.digest(), folded(-1, -1, 1, 1, 0, -1, 1, 1, 0, -1, 0, -1, 'w', 2, 1, 1, 0, 0, 1, 1, 1));
        Due.says("27: more MOVES, in their order");
        Due.is(Due.stones("w:.y.").digest(),
            folded(-1, -1, -1, 3, 0, -1, -1, 1, -1, 16, 18, 3, 0, 1, 3, 1, 0, 0, 1, 0, 0, 1));
    }

    public static void main(String[] args) {
        imageWithoutStones();
        theLatestImage();
        imageOfSixty();
        noneWasKept();
        otherStonesSince();
        goesOnFromTheImage();
        count();
        digestWithoutStones();
        digestWraps();
        digestByParts();
        Due.end();
    }
}
