/** The sentences about MOVES (Terms, promises 9 to 13) that name an edge, each with a test of its own. */
public final class MoveEdgesTest {
    private static final int NONE = FrogsOnRing.NONE;
    private static final int UNKNOWN = FrogsOnRing.UNKNOWN;
    private static final int OUTSIDE = FrogsOnRing.OUTSIDE;
    private static final int STATE = FrogsOnRing.STATE;
    private static final int FULL = FrogsOnRing.FULL;
    private static final int MIN = Integer.MIN_VALUE;
    private static final int MAX = Integer.MAX_VALUE;

    // Looks at can, many and nth: just the MOVES told, each as 16 times from and to, in their order.
    private static void movesOf(FrogsOnRing x, int... moves) {
        Due.is(x.many(), moves.length);
        for (int i = 0; i < moves.length; i++) {
            Due.is(x.nth(i), moves[i]);
        }
        Due.is(x.nth(moves.length), NONE);
        for (int from = 0; from < x.count(0); from++) {
            for (int to = 0; to < x.count(0); to++) {
                int due = 0;
                for (int move : moves) {
                    due = move == 16 * from + to ? 1 : due;
                }
                Due.is(x.can(from, to), due);
            }
        }
    }

    private static int go(int from, int to) {
        return 16 * from + to;
    }

    private static void moves(String stones, int... moves) {
        movesOf(Due.stones(stones), moves);
    }

    private static void standsAs(FrogsOnRing x, String letters) {
        Due.is(x.count(0), letters.length());
        for (int stone = 0; stone < letters.length(); stone++) {
            int kind = ".gby".indexOf(letters.charAt(stone));
            Due.is(x.stone(stone, 0), kind == 0 ? NONE : kind);
        }
    }

    // ---- Terms: where a FROG goes

    private static void onInARow() {
        Due.says("Terms: ON from a STONE: in a ROW the next one (behind the last one there is none)");
        moves("w:g..", go(0, 1));
        moves("w:.g.", go(1, 2));
        moves("w:..g");
        moves("w:gg");
        moves("w:.gg");
        moves("w:.......g.", go(7, 8));
        moves("w:........g");
        moves("w2:.......gb", go(8, 6));
    }

    private static void onInARing() {
        Due.says("Terms: ON in a RING: from the last one the first");
        moves("r:..g", go(2, 0));
        moves("r:.g", go(1, 0));
        moves("r:........g", go(8, 0));
        moves("r:b......gg", go(8, 1));
        moves("r2:b.....ggg", go(7, 1), go(8, 1));
        moves("r2:bb....gg.", go(0, 8), go(1, 8), go(6, 8), go(7, 8));
    }

    private static void onInATree() {
        Due.says("Terms: ON in a TREE: each of its children (a leaf has none)");
        moves("t:g......../00000000", 1, 2, 3, 4, 5, 6, 7, 8);
        moves("t:.g../000");
        moves("t:.g../011", go(1, 2), go(1, 3));
        moves("t:gb.../0110", go(0, 2), go(0, 3), go(0, 4));
        moves("t:g.b./002", go(0, 1), go(0, 3));
        moves("t:g../01", go(0, 1));
    }

    private static void back() {
        Due.says("Terms: BACK: the one ahead (of the first one of a ROW there is none)");
        moves("w:b..");
        moves("w:.b.", go(1, 0));
        moves("w:..b", go(2, 1));
        moves("w:bb.");
        Due.says("Terms: BACK in a RING from the first one the last");
        moves("r:b..", go(0, 2));
        moves("r:b.", go(0, 1));
        moves("r:b........", go(0, 8));
        moves("r:b.......g", go(0, 7), go(8, 1));
        Due.says("Terms: BACK in a TREE its PARENT (of STONE 0 there is none)");
        moves("t:b../01");
        moves("t:b../00");
        moves("t:..b/00", go(2, 0));
        moves("t:.bb/00", go(1, 0), go(2, 0));
        moves("t:.......b./00000010", go(7, 1));
    }

    private static void coloursGoTheirWay() {
        Due.says("Terms: a GREEN goes ON, a BROWN BACK, a YELLOW ON or BACK");
        moves("w:.g.", go(1, 2));
        moves("w:.b.", go(1, 0));
        moves("w:.y.", go(1, 0), go(1, 2));
        moves("r:.g..", go(1, 2));
        moves("r:.b..", go(1, 0));
        moves("r:.y..", go(1, 0), go(1, 2));
        moves("t:.y../011", go(1, 0), go(1, 2), go(1, 3));
        Due.says("Terms: all of one MOVE the same way");
        moves("t:byg./002", go(2, 3));
        moves("t:gy.b./0003", go(0, 2), go(0, 4));
        moves("t2:by../000");
        moves("t:yyy./001", go(0, 3), go(1, 3));
        Due.says("Terms: a MOVE is told by from and to (the same ones ON and BACK are one MOVE)");
        moves("r:y.", go(0, 1));
        moves("r:.y", go(1, 0));
        moves("r:y.b", go(0, 1), go(2, 1));
        moves("r2:yg.b", go(0, 2), go(1, 2), go(3, 2));
        moves("r2:yg.bb", go(0, 2), go(1, 2), go(3, 2), go(4, 2));
    }

    private static void ifNobodyIsThere() {
        Due.says("Terms: to the next STONE, if nobody is there");
        moves("w:gg.", go(0, 2), go(1, 2));
        moves("w:gb");
        moves("r:gy");
        Due.says("Terms: or over one FROG to the STONE behind, if nobody is there");
        moves("w:gb.", go(0, 2));
        moves("w:gbb.");
        moves("w:ggb.", go(1, 3));
        moves("w:gb");
        moves("w:.gb", go(2, 0));
        moves("w:g..", go(0, 1));
        moves("w:g.b.", go(0, 1), go(2, 1));
        Due.says("Terms: not over a STONE where nobody is");
        moves("w2:g.b..", go(0, 1), go(2, 1));
        moves("w2:gb..", go(0, 2));
        moves("w2:.b.g.", go(1, 0), go(3, 4));
        moves("w2:..gb", go(3, 1));
        moves("w2:.g.b", go(1, 2), go(3, 2));
    }

    private static void byTwo() {
        Due.says("Terms: by TWO also over two, one behind the other");
        moves("w:gbb.");
        moves("w2:gbb.", go(0, 3));
        moves("w2:ggg.", go(0, 3), go(1, 3), go(2, 3));
        moves("w2:.ggb", go(3, 0));
        moves("t2:gbb./012", go(0, 3));
        moves("t2:gbb.b/0102", go(0, 3));
        Due.says("Terms: by TWO not over three");
        moves("w2:gbbb.");
        moves("w2:gggg.", go(1, 4), go(2, 4), go(3, 4));
        moves("w2:.gggb");
        moves("r2:.bbbg.", go(1, 0), go(2, 0), go(3, 0), go(4, 5));
    }

    private static void notItsOwnStone() {
        Due.says("Terms: and it is not its own");
        moves("r:gb");
        moves("r:yy");
        moves("r2:yy");
        moves("r2:gby");
        moves("r2:yyy");
        moves("r:gby");
        moves("ro2:gyb");
        FrogsOnRing x = Due.stones("r2:yyy");
        for (int stone = 0; stone < 3; stone++) {
            Due.is(x.can(stone, stone), 0);
            Due.is(x.move(stone, stone), STATE);
        }
        x = Due.stones("r:yg");
        Due.is(x.move(0, 0), STATE);
        Due.is(x.move(1, 1), STATE);
    }

    private static void byOther() {
        Due.says("Terms: by OTHER it leaps over FROGS of other colours alone");
        moves("w:gg.", go(0, 2), go(1, 2));
        moves("wo:gg.", go(1, 2));
        moves("wo:gb.", go(0, 2));
        moves("wo:gy.", go(0, 2), go(1, 2));
        moves("wo:yg.", go(0, 2), go(1, 2));
        moves("wo:yy.", go(1, 2));
        moves("wo:.yy", go(1, 0));
        moves("wo:.bb", go(1, 0));
        moves("wo:.yb", go(1, 0), go(2, 0));
        moves("ro:gg..", go(1, 2));
        moves("to:gg.../0111", go(1, 2), go(1, 3), go(1, 4));
        Due.says("Terms: by OTHER and TWO both of the two are of other colours");
        moves("wo2:gbb.", go(0, 3));
        moves("wo2:gby.", go(0, 3), go(2, 3));
        moves("wo2:ggb.", go(1, 3));
        moves("wo2:gbg.", go(2, 3));
        moves("wo2:.gbb", go(2, 0));
        moves("wo2:.bgb", go(1, 0));
        moves("wo2:.gyb", go(2, 0), go(3, 0));
    }

    private static void orderAndStuck() {
        Due.says("Terms: MOVES are in order of from, then to");
        moves("r:..y.y..", go(2, 1), go(2, 3), go(4, 3), go(4, 5));
        moves("r:y.......y", go(0, 1), go(0, 7), go(8, 1), go(8, 7));
        moves("t:y...../00000", 1, 2, 3, 4, 5);
        moves("t:.y...y/01011", go(1, 0), go(1, 2), go(1, 4), go(5, 0));
        Due.says("Terms: STUCK: there are no MOVES");
        moves("w:bb.gg");
        moves("w:..");
        moves("r:.........");
        moves("r:gbygbygby");
        Due.is(Due.stones("w:bb.gg").reach(1), 1);
        Due.is(Due.stones("r:...").reach(1), 1);
    }

    // ---- 9, 10

    private static void numbersThatNameNoStone() {
        Due.says("9, 10: UNKNOWN: from, to");
        for (int many = 2; many <= 9; many++) {
            FrogsOnRing x = Due.stones("r:" + "g.........".substring(0, many));
            for (int wrong : new int[] {-1, many, many + 1, 10, 31, 32, 33, 64, MIN, MAX}) {
                Due.is(x.can(wrong, 1), UNKNOWN);
                Due.is(x.can(0, wrong), UNKNOWN);
                Due.is(x.can(wrong, wrong), UNKNOWN);
                Due.is(x.move(wrong, 1), UNKNOWN);
                Due.is(x.move(0, wrong), UNKNOWN);
                Due.is(x.move(wrong, wrong), UNKNOWN);
            }
            Due.is(x.count(5), 0);
            Due.is(x.can(0, many - 1), many == 2 ? 1 : 0);
            Due.is(x.can(many - 1, 0), 0);
        }
        Due.says("9, 10: without STONES UNKNOWN comes ahead of STATE");
        FrogsOnRing none = new FrogsOnRing();
        for (int from : new int[] {-1, 0, 8, 9}) {
            for (int to : new int[] {-1, 0, 1, 9}) {
                Due.is(none.can(from, to), UNKNOWN);
                Due.is(none.move(from, to), UNKNOWN);
            }
        }
    }

    private static void whereNobodyIs() {
        Due.says("9: whether a MOVE is one: 0 from where nobody is, to where somebody is, to its own");
        FrogsOnRing x = Due.stones("w:g.b.");
        Due.is(x.can(1, 0), 0);
        Due.is(x.can(1, 3), 0);
        Due.is(x.can(3, 3), 0);
        Due.is(x.can(0, 2), 0);
        Due.is(x.can(0, 0), 0);
        Due.is(x.can(0, 3), 0);
        Due.is(x.can(2, 3), 0);
        Due.is(x.can(2, 1), 1);
        Due.is(x.count(5), 0);
        standsAs(x, "g.b.");
    }

    private static void aMoveThatIsNone() {
        Due.says("10: STATE: it is none; that changes nothing");
        FrogsOnRing x = Due.stones("w:g.b.");
        x.move(0, 1);
        long before = x.digest();
        for (int from = 0; from < 4; from++) {
            for (int to = 0; to < 4; to++) {
                if (x.can(from, to) == 0) {
                    Due.is(x.move(from, to), STATE);
                }
            }
        }
        Due.is(x.digest(), before);
        standsAs(x, ".gb.");
        Due.is(x.back(), 0);
        standsAs(x, "g.b.");
    }

    private static FrogsOnRing withSixtyMoves() {
        FrogsOnRing x = Due.stones("r:g..b");
        for (int made = 0; made < 60; made++) {
            int move = x.nth(made % 2 == 0 ? 0 : x.many() - 1);
            Due.is(x.move(move / 16, move % 16), made + 1);
        }
        return x;
    }

    private static void theSixtyFirst() {
        Due.says("10: FULL: the 61st (60 at most)");
        FrogsOnRing x = withSixtyMoves();
        int from = x.nth(0) / 16;
        int to = x.nth(0) % 16;
        long before = x.digest();
        Due.is(x.count(5), 60);
        Due.is(x.can(from, to), 1);
        Due.is(x.move(from, to), FULL);
        Due.is(x.move(from, to), FULL);
        Due.says("10: UNKNOWN and STATE ahead of FULL, which changes nothing");
        Due.is(x.move(from, 4), UNKNOWN);
        Due.is(x.move(-1, to), UNKNOWN);
        Due.is(x.move(to, from), STATE);
        Due.is(x.move(from, from), STATE);
        Due.is(x.digest(), before);
        Due.is(x.count(5), 60);
        Due.says("10: behind one taken back there is room again");
        Due.is(x.back(), 59);
        Due.is(x.move(x.nth(0) / 16, x.nth(0) % 16), 60);
        Due.is(x.move(x.nth(0) / 16, x.nth(0) % 16), FULL);
    }

    // ---- 11, 12, 13

    private static void noneWasMade() {
        Due.says("11: STATE: none was made");
        Due.is(new FrogsOnRing().back(), STATE);
        FrogsOnRing x = Due.stones("w:g.b");
        Due.is(x.back(), STATE);
        x.move(0, 2);
        Due.is(x.back(), STATE);
        x.move(0, 1);
        Due.is(x.back(), 0);
        Due.is(x.back(), STATE);
        Due.is(x.count(5), 0);
        standsAs(x, "g.b");
        Due.says("11: the last one first, all sixty of them");
        FrogsOnRing full = withSixtyMoves();
        for (int made = 59; made >= 0; made--) {
            Due.is(full.back(), made);
        }
        standsAs(full, "g..b");
        Due.is(full.back(), STATE);
        Due.says("11: each goes to where it was from, a leap too");
        x = Due.stones("w2:yb.g.");
        x.move(0, 2);
        x.move(2, 4);
        x.move(1, 0);
        standsAs(x, "b..gy");
        Due.is(x.back(), 2);
        standsAs(x, ".b.gy");
        Due.is(x.back(), 1);
        standsAs(x, ".byg.");
        Due.is(x.back(), 0);
        standsAs(x, "yb.g.");
    }

    private static void howMany() {
        Due.says("12: STATE: no STONES");
        Due.is(new FrogsOnRing().many(), STATE);
        Due.says("12: none are 0");
        Due.is(Due.stones("w:..").many(), 0);
        Due.is(Due.stones("r:gg").many(), 0);
        Due.is(Due.stones("t:b../00").many(), 0);
        Due.says("12: of the ORDER now");
        FrogsOnRing x = Due.stones("w:g..");
        Due.is(x.many(), 1);
        x.move(0, 1);
        x.move(1, 2);
        Due.is(x.many(), 0);
        x.back();
        Due.is(x.many(), 1);
    }

    private static void theNth() {
        Due.says("13: OUTSIDE: i (0 to 63)");
        FrogsOnRing x = Due.stones("r:..y.y..");
        for (int i : new int[] {-1, 64, 65, 100, MIN, MAX}) {
            Due.is(x.nth(i), OUTSIDE);
        }
        Due.says("13: NONE: there is none (more than there are)");
        Due.is(x.nth(0), go(2, 1));
        Due.is(x.nth(3), go(4, 5));
        for (int i = 4; i <= 63; i++) {
            Due.is(x.nth(i), NONE);
        }
        FrogsOnRing stuck = Due.stones("w:bb.gg");
        Due.is(stuck.nth(0), NONE);
        Due.is(stuck.nth(63), NONE);
        Due.is(stuck.nth(64), OUTSIDE);
        Due.says("13: STATE, ahead of OUTSIDE");
        FrogsOnRing none = new FrogsOnRing();
        for (int i : new int[] {-1, 0, 63, 64}) {
            Due.is(none.nth(i), STATE);
        }
        Due.says("13: 16 times from and to, of the greatest numbers too");
        Due.is(Due.stones("w:........b").nth(0), 16 * 8 + 7);
        Due.is(Due.stones("r:........g").nth(0), 16 * 8);
        Due.is(Due.stones("r:b........").nth(0), 8);
        Due.is(Due.stones("w:g.").nth(0), 1);
    }

    public static void main(String[] args) {
        onInARow();
        onInARing();
        onInATree();
        back();
        coloursGoTheirWay();
        ifNobodyIsThere();
        byTwo();
        notItsOwnStone();
        byOther();
        orderAndStuck();
        numbersThatNameNoStone();
        whereNobodyIs();
        aMoveThatIsNone();
        theSixtyFirst();
        noneWasMade();
        howMany();
        theNth();
        Due.end();
    }
}
