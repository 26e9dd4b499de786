/** The sentences about other ORDERS (promises 14 to 19) that name an edge, each with a test of its own. */
public final class OrderEdgesTest {
    private static final int NONE = FrogsOnRing.NONE;
    private static final int OUTSIDE = FrogsOnRing.OUTSIDE;
    private static final int STATE = FrogsOnRing.STATE;
    private static final int MIN = Integer.MIN_VALUE;
    private static final int MAX = Integer.MAX_VALUE;

    private static int go(int from, int to) {
        return 16 * from + to;
    }

    private static void toTheAim(FrogsOnRing x, int fewest, long ways, int by) {
        Due.is(x.fewest(), fewest);
        Due.is(x.ways(), ways);
        Due.is(x.by(), by);
    }

    private static void toTheAim(String stones, String aim, int fewest, long ways, int by) {
        toTheAim(Due.aiming(stones, aim), fewest, ways, by);
    }

    // ---- 14, 15, 16

    private static void noAim() {
        Due.says("14, 15, 16: STATE: no AIM");
        toTheAim(new FrogsOnRing(), STATE, STATE, STATE);
        FrogsOnRing x = Due.stones("w:g.");
        toTheAim(x, STATE, STATE, STATE);
        Due.write(x, "b.");
        x.aim();
        toTheAim(x, STATE, STATE, STATE);
        x.blank();
        Due.write(x, ".g");
        x.aim();
        toTheAim(x, 1, 1, go(0, 1));
        Due.write(x, "w:g.");
        toTheAim(x, 1, 1, go(0, 1));
        x.stones();
        toTheAim(x, STATE, STATE, STATE);
    }

    private static void itCant() {
        Due.says("14, 15, 16: it can't: NONE, 0, NONE");
        toTheAim("w:.g", "g.", NONE, 0, NONE);
        toTheAim("w:b.", ".b", NONE, 0, NONE);
        toTheAim("r:gb", "bg", NONE, 0, NONE);
        toTheAim("t:g../00", ".g.", 1, 1, go(0, 1));
        toTheAim("t:.g./00", "..g", NONE, 0, NONE);
        toTheAim("w:bg.", ".gb", NONE, 0, NONE);
        toTheAim("w:gbb.", ".bbg", NONE, 0, NONE);
        toTheAim("w2:gbb.", ".bbg", 1, 1, go(0, 3));
        FrogsOnRing x = Due.aiming("w:g..", ".g.");
        x.move(0, 1);
        x.move(1, 2);
        toTheAim(x, NONE, 0, NONE);
        x.back();
        toTheAim(x, 0, 1, NONE);
    }

    private static void itIsTheAim() {
        Due.says("14, 15, 16: it is THE AIM: 0, 1 (the row of no MOVES), NONE");
        toTheAim("w:g.b", "g.b", 0, 1, NONE);
        toTheAim("r:y.", "y.", 0, 1, NONE);
        toTheAim("r:..", "..", 0, 1, NONE);
        toTheAim("r:gbygbygby", "gbygbygby", 0, 1, NONE);
        toTheAim("t:g../00", "g..", 0, 1, NONE);
        FrogsOnRing x = Due.aiming("r:g..", "g..");
        toTheAim(x, 0, 1, NONE);
        x.move(0, 1);
        toTheAim(x, 2, 1, go(1, 2));
        x.move(1, 2);
        x.move(2, 0);
        toTheAim(x, 0, 1, NONE);
    }

    private static void fewestAndWays() {
        Due.says("FEWEST: by how few MOVES THE AIM can be come to");
        toTheAim("w:g........", "........g", 8, 1, go(0, 1));
        toTheAim("r:.g.......", "g........", 8, 1, go(1, 2));
        toTheAim("r:y........", "........y", 1, 1, go(0, 8));
        Due.says("WAYS: in how many ways (rows of MOVES) by just so many");
        toTheAim("w:gb..", ".bg.", 1, 1, go(0, 2));
        toTheAim("w:gb..", ".b.g", 2, 1, go(0, 2));
        toTheAim("r:y...", "..y.", 2, 2, go(0, 1));
        toTheAim("r:y.", ".y", 1, 1, go(0, 1));
        toTheAim("w:g.....b.", "..g.b...", 4, 6, go(0, 1));
        Due.says("WAYS are a long");
        toTheAim("ro:g..b.bbbg", "bbb...ggb", 25, 31519254086L, go(0, 1));
        Due.says("BY: of all such ways the least from, then to");
        toTheAim("w:g...b", ".g.b.", 2, 2, go(0, 1));
        toTheAim("w:.b..g.", "b....g", 2, 2, go(1, 0));
        toTheAim("r:..y..y", "y..y..", 2, 2, go(2, 3));
        toTheAim("r:y..y..", "..y..y", 2, 2, go(0, 5));
    }

    private static void ofTheOrderNow() {
        Due.says("14, 15, 16: of the ORDER now, whichever is asked first");
        FrogsOnRing x = Due.aiming("w:g...b", ".g.b.");
        Due.is(x.by(), go(0, 1));
        x.move(0, 1);
        Due.is(x.by(), go(4, 3));
        x.back();
        Due.is(x.ways(), 2);
        x.move(0, 1);
        Due.is(x.ways(), 1);
        x.back();
        Due.is(x.fewest(), 2);
        x.move(0, 1);
        Due.is(x.fewest(), 1);
        x.image();
        x.move(4, 3);
        Due.is(x.by(), NONE);
        x.restore();
        Due.is(x.by(), go(4, 3));
    }

    // ---- 17

    private static void reached(FrogsOnRing x, int orders, int stuck, int greatest) {
        Due.is(x.reach(0), orders);
        Due.is(x.reach(1), stuck);
        Due.is(x.reach(2), greatest);
    }

    private static void reachIsRefused() {
        Due.says("17: OUTSIDE: what (0 to 2)");
        FrogsOnRing x = Due.stones("r:g..");
        for (int what : new int[] {-1, 3, 4, 100, MIN, MAX}) {
            Due.is(x.reach(what), OUTSIDE);
        }
        Due.says("17: STATE, ahead of OUTSIDE");
        for (int what : new int[] {-1, 0, 1, 2, 3, MIN, MAX}) {
            Due.is(new FrogsOnRing().reach(what), STATE);
        }
    }

    private static void reach() {
        Due.says("REACH: how many ORDERS can be come to (the one now, too), also where it is STUCK");
        reached(Due.stones("w:.."), 1, 1, 0);
        reached(Due.stones("w:bb.gg"), 1, 1, 0);
        reached(Due.stones("r:gbygbygby"), 1, 1, 0);
        reached(Due.stones("w:g."), 2, 1, 1);
        Due.says("REACH: how many of them are STUCK");
        reached(Due.stones("r:g........"), 9, 0, 8);
        reached(Due.stones("t:g../00"), 3, 2, 1);
        reached(Due.stones("t:g......../00000000"), 9, 8, 1);
        Due.says("REACH: the greatest of FEWEST to any of these");
        reached(Due.stones("w:g........"), 9, 1, 8);
        reached(Due.stones("r:y........"), 9, 0, 4);
        reached(Due.stones("r:gg.bb"), 26, 5, 8);
        Due.says("REACH: all 7560 ORDERS of nine STONES");
        Due.is(Due.stones("r2:ggbbyy...").reach(0), 7560);
        Due.is(Due.stones("r2:ybgybg...").reach(0), 7560);
        Due.is(Due.stones("r2:yyybbgg..").reach(0), 7560);
        Due.says("REACH: from the ORDER now");
        FrogsOnRing x = Due.stones("w:g..");
        reached(x, 3, 1, 2);
        x.move(0, 1);
        reached(x, 2, 1, 1);
        x.move(1, 2);
        reached(x, 1, 1, 0);
        x.back();
        reached(x, 2, 1, 1);
    }

    // ---- 18, 19

    private static final String[] NOT_ENDING = {"r:g.", "r:..", "r:gb.", "w:y.", "w:gby.", "w:gb......y", "t:y./0", "t:.gb.y/0000",
        "r:y.", "ro2:gb..."};

    private static void notEnding() {
        Due.says("18: STATE: no STONES, not ENDING (a RING, a YELLOW)");
        Due.is(new FrogsOnRing().longest(), STATE);
        for (String stones : NOT_ENDING) {
            Due.is(Due.stones(stones).longest(), STATE);
        }
        Due.says("19: STATE: no STONES, not ENDING, ahead of OUTSIDE");
        for (int who : new int[] {-1, 0, 1, 2}) {
            for (int what : new int[] {-1, 0, 1, 2}) {
                Due.is(new FrogsOnRing().game(who, what), STATE);
                for (String stones : NOT_ENDING) {
                    Due.is(Due.stones(stones).game(who, what), STATE);
                }
            }
        }
        Due.says("18, 19: ENDING again by other STONES");
        FrogsOnRing x = Due.stones("r:g.");
        Due.write(x, "w:g.");
        x.stones();
        Due.is(x.longest(), 1);
        Due.is(x.game(0, 0), 1);
        Due.write(x, "r:g.");
        x.stones();
        Due.is(x.longest(), STATE);
        Due.is(x.game(0, 0), STATE);
    }

    private static void longest() {
        Due.says("LONGEST: the most MOVES until it is STUCK; no MOVE: 0");
        Due.is(Due.stones("w:..").longest(), 0);
        Due.is(Due.stones("w:bb.gg").longest(), 0);
        Due.is(Due.stones("t:........./00000000").longest(), 0);
        Due.is(Due.stones("w:gbgbgbgbg").longest(), 0);
        Due.is(Due.stones("w:g.").longest(), 1);
        Due.is(Due.stones("w:.b").longest(), 1);
        // Four greens go five steps each.
        Due.is(Due.stones("w:gggg.....").longest(), 20);
        Due.is(Due.stones("w:.....bbbb").longest(), 20);
        // Six frogs go six STONES each; nine times two pass by a leap of two.
        Due.is(Due.stones("wo:ggg...bbb").longest(), 27);
        Due.is(Due.stones("t:g......../01234567").longest(), 8);
        Due.is(Due.stones("t:g......../00000000").longest(), 1);
        Due.says("LONGEST: from the ORDER now");
        FrogsOnRing x = Due.stones("w:g..");
        x.move(0, 1);
        Due.is(x.longest(), 1);
        x.back();
        Due.is(x.longest(), 2);
    }

    private static void played(String stones, int greens, int byGreens, int browns, int byBrowns) {
        FrogsOnRing x = Due.stones(stones);
        Due.is(x.game(0, 0), greens);
        Due.is(x.game(0, 1), byGreens);
        Due.is(x.game(1, 0), browns);
        Due.is(x.game(1, 1), byBrowns);
    }

    private static void gameIsRefused() {
        Due.says("19: OUTSIDE: who (0, 1), what (0, 1)");
        FrogsOnRing x = Due.stones("w:g.b");
        for (int wrong : new int[] {-1, 2, 3, 16, MIN, MAX}) {
            for (int other : new int[] {-1, 0, 1, 2}) {
                Due.is(x.game(wrong, other), OUTSIDE);
                Due.is(x.game(other, wrong), OUTSIDE);
            }
        }
    }

    private static void game() {
        Due.says("GAME: who has no MOVE loses (NONE: by no MOVE)");
        played("w:..", 0, NONE, 0, NONE);
        played("w:bg", 0, NONE, 0, NONE);
        played("w:bb.gg", 0, NONE, 0, NONE);
        played("w:g.", 1, go(0, 1), 0, NONE);
        played("w:.b", 0, NONE, 1, go(1, 0));
        played("w:g..", 1, go(0, 1), 0, NONE);
        played("w:........b", 0, NONE, 1, go(8, 7));
        Due.says("GAME: the one GREENS alone, the other one BROWNS alone, by turns");
        // One step each, apart from one another: who begins has none left first.
        played("t:.bg./002", 0, NONE, 0, NONE);
        // The green has one step, the brown two: the brown one wins, whoever begins.
        played("t:..bg./0123", 0, NONE, 1, go(2, 1));
        Due.says("GAME: of all by which it wins the least");
        played("t:g../00", 1, go(0, 1), 0, NONE);
        played("t:.bb/00", 0, NONE, 1, go(1, 0));
        played("w:.b.b", 0, NONE, 1, go(1, 0));
        // From 2 to 3 the green has no step behind it, from 2 to 4 it has one more.
        played("t:.bg.../00224", 1, go(2, 4), 0, NONE);
        Due.says("GAME: from the ORDER now");
        FrogsOnRing x = Due.stones("w:g.b");
        x.move(0, 1);
        Due.is(x.game(0, 0), 0);
        Due.is(x.game(1, 0), 0);
        Due.is(x.game(1, 1), NONE);
        x.move(2, 0);
        Due.is(x.game(0, 0), 1);
        Due.is(x.game(0, 1), go(1, 2));
        x.child(9, 1, 0);
        Due.is(x.game(0, 1), go(1, 2));
        x.back();
        x.back();
        Due.is(x.game(0, 0), 1);
    }

    public static void main(String[] args) {
        noAim();
        itCant();
        itIsTheAim();
        fewestAndWays();
        ofTheOrderNow();
        reachIsRefused();
        reach();
        notEnding();
        longest();
        gameIsRefused();
        game();
        Due.end();
    }
}
