import java.math.BigInteger;

/** The sentences about children and turns (promises 20 to 23) that name an edge, each with a test of its own. */
public final class ChildEdgesTest {
    private static final int NONE = FrogsOnRing.NONE;
    private static final int OUTSIDE = FrogsOnRing.OUTSIDE;
    private static final int STATE = FrogsOnRing.STATE;
    private static final int MIN = Integer.MIN_VALUE;
    private static final int MAX = Integer.MAX_VALUE;

    private static void lucky(FrogsOnRing x, int times, int above, int below) {
        Due.is(x.luck(times, 0), above);
        Due.is(x.luck(times, 1), below);
    }

    private static void lucky(String stones, String aim, int times, int above, int below) {
        lucky(Due.aiming(stones, aim), times, above, below);
    }

    // ---- 20

    private static void luckIsRefused() {
        Due.says("20: STATE: no AIM, or there are no FROGS, ahead of OUTSIDE");
        FrogsOnRing without = new FrogsOnRing();
        FrogsOnRing noAim = Due.stones("w:g.");
        FrogsOnRing noFrogs = Due.aiming("r:..", "..");
        Due.is(noFrogs.fewest(), 0);
        for (int times : new int[] {-1, 0, 6, 7, MIN, MAX}) {
            for (int part : new int[] {-1, 0, 1, 2}) {
                Due.is(without.luck(times, part), STATE);
                Due.is(noAim.luck(times, part), STATE);
                Due.is(noFrogs.luck(times, part), STATE);
            }
        }
        Due.says("20: OUTSIDE: times (0 to 6)");
        FrogsOnRing x = Due.aiming("w:g.......", "......g.");
        for (int times : new int[] {-1, 7, 8, 100, MIN, MAX}) {
            Due.is(x.luck(times, 0), OUTSIDE);
            Due.is(x.luck(times, 1), OUTSIDE);
        }
        Due.says("20: OUTSIDE: part (0, 1)");
        for (int part : new int[] {-1, 2, 3, 16, MIN, MAX}) {
            Due.is(x.luck(0, part), OUTSIDE);
            Due.is(x.luck(6, part), OUTSIDE);
        }
        lucky(x, 5, 0, 1);
        lucky(x, 6, 1, 1);
    }

    private static void luckOfNoTimes() {
        Due.says("20: times of 0: it is THE AIM, or it is not");
        lucky("w:g.b", "g.b", 0, 1, 1);
        lucky("w:g.b", ".gb", 0, 0, 1);
        lucky("r:gbygbygby", "gbygbygby", 0, 1, 1);
        lucky("w:.g", "g.", 0, 0, 1);
        FrogsOnRing x = Due.aiming("w:g.", ".g");
        lucky(x, 0, 0, 1);
        x.move(0, 1);
        lucky(x, 0, 1, 1);
    }

    private static void luckInLowestTerms() {
        Due.says("20: in lowest terms, where it can't too");
        for (int times = 0; times <= 6; times++) {
            lucky("w:.gbb", "g.bb", times, 0, 1);
            lucky("r:gbygbygby", "gbygbygby", times, 1, 1);
            lucky("r:gbygbygby", "bgygbygby", times, 0, 1);
        }
        lucky("w:g...b", ".g.b.", 2, 1, 2);
        // Three steps each in any row: 20 of 64.
        lucky("w:g......b", "...gb...", 6, 5, 16);
        lucky("w:g......b", "...gb...", 5, 0, 1);
        Due.says("20: the least and the greatest parts of eight FROGS and 6 times");
        lucky("wo:.bbbbbbbb", "bbbbbb.bb", 6, 1, 262144);
        lucky("wo:.bbbbbbbb", ".bbbbbbbb", 6, 117649, 262144);
    }

    private static void eachAsLikely() {
        Due.says("CHILDREN: each time one of the FROGS (each as likely) makes a MOVE");
        lucky("w:g..b....b", ".g.b....b", 1, 1, 3);
        lucky("w:g..b....b", "g.b.....b", 1, 1, 3);
        lucky("w:g..b....b", "g..b...b.", 1, 1, 3);
        lucky("w:g..b....b", "g..b....b", 1, 0, 1);
        Due.says("CHILDREN: the least that it has (by to)");
        lucky("w:.y.", "y..", 1, 1, 1);
        lucky("w:.y.", "..y", 1, 0, 1);
        lucky("r:y..", ".y.", 1, 1, 1);
        lucky("r:.y.", "y..", 1, 1, 1);
        lucky("r:..y", "y..", 1, 1, 1);
        lucky("r:y........", ".y.......", 6, 0, 1);
        lucky("r:y........", "y........", 6, 1, 1);
        lucky("t:g../00", ".g.", 1, 1, 1);
        lucky("t:g../00", "..g", 1, 0, 1);
        lucky("t:gb.../0110", ".bg..", 1, 1, 2);
        lucky("t:gb.../0110", ".b..g", 1, 0, 1);
        Due.says("CHILDREN: if it has none, it waits");
        lucky("w:.g", ".g", 6, 1, 1);
        lucky("w:bg.", "bg.", 1, 1, 2);
        lucky("w:bg.", "b.g", 6, 63, 64);
        lucky("w:bg.", "bg.", 6, 1, 64);
    }

    // ---- 21

    private static int seedBehind(int seed, int times) {
        BigInteger next = BigInteger.valueOf(seed);
        for (int time = 0; time < times; time++) {
            next = next.multiply(BigInteger.valueOf(1103515245)).add(BigInteger.valueOf(12345));
            next = next.mod(BigInteger.TWO.pow(31));
        }
        return next.intValueExact();
    }

    private static void childIsRefused() {
        Due.says("21: STATE: no STONES, no FROGS, ahead of OUTSIDE");
        FrogsOnRing without = new FrogsOnRing();
        FrogsOnRing noFrogs = Due.stones("r:...");
        for (int times : new int[] {0, 1, 99, 100}) {
            for (int seed : new int[] {-1, 0}) {
                for (int what : new int[] {-1, 0, 9, 10, 11}) {
                    Due.is(without.child(times, seed, what), STATE);
                    Due.is(noFrogs.child(times, seed, what), STATE);
                }
            }
        }
        FrogsOnRing x = Due.stones("r:g..");
        Due.says("21: OUTSIDE: times (1 to 99)");
        for (int times : new int[] {0, -1, 100, 101, MIN, MAX}) {
            for (int what = 0; what <= 10; what++) {
                Due.is(x.child(times, 1, what), OUTSIDE);
            }
        }
        Due.says("21: OUTSIDE: seed (0 at least)");
        for (int seed : new int[] {-1, -2, MIN}) {
            for (int what = 0; what <= 10; what++) {
                Due.is(x.child(1, seed, what), OUTSIDE);
            }
        }
        Due.says("21: OUTSIDE: what (0 to 10)");
        for (int what : new int[] {-1, 11, 12, 100, MIN, MAX}) {
            Due.is(x.child(1, 0, what), OUTSIDE);
            Due.is(x.child(99, MAX, what), OUTSIDE);
        }
    }

    private static void timesAtTheirEnds() {
        Due.says("21: times of 1 and 99");
        FrogsOnRing x = Due.stones("r:g..");
        Due.is(x.child(1, 1, 9), 1);
        Due.is(x.child(1, 1, 1), 1);
        Due.is(x.child(99, 1, 9), 99);
        Due.is(x.child(99, 1, 0), 1);
        Due.is(x.child(98, 1, 2), 1);
    }

    private static void seedsAtTheirEnds() {
        Due.says("21: a SEED of 0 and the greatest one: 1103515245 times it and 12345, its rest by 2 to the 31");
        FrogsOnRing x = Due.stones("r:g..");
        Due.is(x.child(1, 0, 10), 12345);
        Due.is(x.child(1, 1, 10), 1103527590);
        Due.is(x.child(2, 0, 10), seedBehind(12345, 1));
        Due.is(x.child(1, MAX, 10), 1043980748);
        for (int seed : new int[] {0, 1, 2, 65535, 65536, 1 << 30, MAX - 1, MAX}) {
            for (int times : new int[] {1, 2, 3, 50, 98, 99}) {
                Due.is(x.child(times, seed, 10), seedBehind(seed, times));
            }
        }
        Due.says("21: the SEED goes on where a FROG waits, too");
        Due.is(Due.stones("w:.g").child(99, MAX, 10), seedBehind(MAX, 99));
        Due.is(Due.stones("w:.g").child(99, MAX, 9), 0);
    }

    private static void draws() {
        Due.says("A DRAW of d: the next SEED, by 65536 (rounded down), its rest by d");
        for (int seed : new int[] {0, 1, 7, 12345, 1 << 30, MAX - 1, MAX}) {
            int drawn = seedBehind(seed, 1) / 65536;
            // Each green has one free STONE behind it; the one drawn goes there.
            for (int frogs = 1; frogs <= 4; frogs++) {
                String letters = "." + "gggg".substring(0, frogs) + "....".substring(0, frogs);
                String parents = "0000".substring(0, frogs) + "1234".substring(0, frogs);
                FrogsOnRing x = Due.stones("t:" + letters + "/" + parents);
                int went = drawn % frogs;
                for (int frog = 0; frog < frogs; frog++) {
                    Due.is(x.child(1, seed, 1 + frog), frog == went ? NONE : 1);
                    Due.is(x.child(1, seed, 1 + frogs + frog), frog == went ? 1 : NONE);
                }
            }
        }
        Due.says("A CHILD: the FROG whose number is in order of STONES as they stand");
        // The SEED 0 draws 0: the green leaps over the yellow, which is the first one then.
        FrogsOnRing x = Due.stones("w:gy..");
        Due.is(seedBehind(0, 1) / 65536, 0);
        Due.is(x.child(1, 0, 2), 1);
        Due.is(x.child(1, 0, 1), 3);
        int second = seedBehind(0, 2) / 65536 % 2;
        Due.is(x.child(2, 0, second == 0 ? 0 : 3), second == 0 ? 3 : 1);
    }

    private static void whatAtItsEnds() {
        Due.says("21: what of 0 to 8: the KIND on that STONE then (NONE: nobody, or no STONE)");
        FrogsOnRing two = Due.stones("w:.g");
        Due.is(two.child(1, 0, 0), NONE);
        Due.is(two.child(1, 0, 1), 1);
        for (int what = 2; what <= 8; what++) {
            Due.is(two.child(1, 0, what), NONE);
        }
        FrogsOnRing nine = Due.stones("r:gbygbygby");
        for (int what = 0; what <= 8; what++) {
            Due.is(nine.child(99, 5, what), what % 3 + 1);
        }
        Due.is(Due.stones("w:.......g.").child(1, 9, 8), 1);
        Due.is(Due.stones("w:.......g").child(1, 9, 8), NONE);
        Due.says("21: what of 9: how many MOVES; of 10: the SEED then");
        Due.is(nine.child(99, 5, 9), 0);
        Due.is(nine.child(99, 5, 10), seedBehind(5, 99));
        Due.is(Due.stones("w:g........").child(99, 5, 9), 8);
        Due.is(Due.stones("w:g........").child(7, 5, 9), 7);
        Due.is(Due.stones("w:g........").child(99, 5, 8), 1);
    }

    private static void asItWouldBe() {
        Due.says("21: as it would be: nothing changes");
        FrogsOnRing x = Due.aiming("r:gb.y", "yb.g");
        x.move(3, 2);
        long before = x.digest();
        for (int what = 0; what <= 10; what++) {
            x.child(99, 77, what);
            x.luck(6, what % 2);
        }
        Due.is(x.digest(), before);
        Due.is(x.stone(2, 0), 3);
        Due.is(x.count(5), 1);
        Due.is(x.back(), 0);
    }

    // ---- 22, 23

    private static void alikeIsRefused() {
        Due.says("22: STATE: no AIM, or it is no RING");
        Due.is(new FrogsOnRing().alike(), STATE);
        Due.is(Due.stones("r:g.").alike(), STATE);
        Due.is(Due.stones("w:g.").alike(), STATE);
        Due.is(Due.aiming("w:g.", "g.").alike(), STATE);
        Due.is(Due.aiming("t:g./0", "g.").alike(), STATE);
        FrogsOnRing x = Due.aiming("r:g.", ".g");
        Due.is(x.alike(), 1);
        Due.write(x, "r:g.");
        x.stones();
        Due.is(x.alike(), STATE);
    }

    private static void alike() {
        Due.says("ALIKE: by none: NONE");
        Due.is(Due.aiming("r:gb.", "bg.").alike(), NONE);
        Due.is(Due.aiming("r:gbygbygby", "gbygbyybg").alike(), NONE);
        Due.is(Due.aiming("r:gg..", "g.g.").alike(), NONE);
        Due.says("ALIKE: on i and k (its rest by how many STONES there are), for each k");
        String ring = "gby.gb..y";
        for (int k = 0; k < 9; k++) {
            String turned = ring.substring(9 - k) + ring.substring(0, 9 - k);
            Due.is(Due.aiming("r:" + ring, turned).alike(), k);
        }
        Due.is(Due.aiming("r:g.", ".g").alike(), 1);
        Due.is(Due.aiming("r:..g", "g..").alike(), 1);
        Due.is(Due.aiming("r:g..", "..g").alike(), 2);
        Due.says("ALIKE: the least k");
        Due.is(Due.aiming("r:..", "..").alike(), 0);
        Due.is(Due.aiming("r:ggggggggg", "ggggggggg").alike(), 0);
        Due.is(Due.aiming("r:g.bg.b", ".bg.bg").alike(), 2);
        Due.is(Due.aiming("r:g.bg.b", "bg.bg.").alike(), 1);
        Due.is(Due.aiming("r:g.g.", ".g.g").alike(), 1);
        Due.says("ALIKE: the ORDER now, though no MOVES lead there");
        FrogsOnRing x = Due.aiming("r:gby", "ygb");
        Due.is(x.fewest(), NONE);
        Due.is(x.alike(), 1);
        x = Due.aiming("r:g...", "g...");
        x.move(0, 1);
        Due.is(x.alike(), 3);
    }

    private static void kinds() {
        Due.says("23: STATE: no STONES, or they are no RING");
        Due.is(new FrogsOnRing().kinds(), STATE);
        Due.is(Due.stones("w:g.").kinds(), STATE);
        Due.is(Due.stones("t:g./0").kinds(), STATE);
        Due.is(Due.aiming("w:..", "..").kinds(), STATE);
        FrogsOnRing x = Due.stones("w:g.");
        Due.write(x, "r:g.");
        x.stones();
        Due.is(x.kinds(), 1);
        Due.write(x, "w:g.");
        x.stones();
        Due.is(x.kinds(), STATE);
        Due.says("KINDS of ORDERS that are unlike, however TURNED");
        Due.is(Due.stones("r:..").kinds(), 1);
        Due.is(Due.stones("r:g........").kinds(), 1);
        Due.is(Due.stones("r:gg..").kinds(), 2);
        Due.is(Due.stones("r:yy....").kinds(), 3);
        Due.is(Due.stones("r2:ggbbyy...").kinds(), 840);
        Due.says("KINDS: of all that REACH counts");
        Due.is(Due.stones("r:gby").kinds(), 1);
        Due.is(Due.stones("r:bb.gg").kinds(), 1);
        Due.is(Due.stones("r:gg.bb").kinds(), 6);
    }

    public static void main(String[] args) {
        luckIsRefused();
        luckOfNoTimes();
        luckInLowestTerms();
        eachAsLikely();
        childIsRefused();
        timesAtTheirEnds();
        seedsAtTheirEnds();
        draws();
        whatAtItsEnds();
        asItWouldBe();
        alikeIsRefused();
        alike();
        kinds();
        Due.end();
    }
}
