/** Each promise of the document by its number: ordinary inputs, edges, refusals; answers worked out by hand. */
public final class PromisesTest {
    private static final int NONE = FrogsOnRing.NONE;
    private static final int UNKNOWN = FrogsOnRing.UNKNOWN;
    private static final int OUTSIDE = FrogsOnRing.OUTSIDE;
    private static final int STATE = FrogsOnRing.STATE;
    private static final int FULL = FrogsOnRing.FULL;
    private static final int MIN = Integer.MIN_VALUE;
    private static final int MAX = Integer.MAX_VALUE;

    private static long mix(long h, long... numbers) {
        for (long number : numbers) {
            h = 31 * h + number;
        }
        return h;
    }

    private static int faultOf(String text) {
        FrogsOnRing x = new FrogsOnRing();
        Due.write(x, text);
        return x.fault();
    }

    private static int stonesOf(String text) {
        FrogsOnRing x = new FrogsOnRing();
        Due.write(x, text);
        return x.stones();
    }

    // The moves as a text: "from-to from-to ".
    private static String moves(FrogsOnRing x) {
        StringBuilder text = new StringBuilder();
        for (int i = 0; i < 64 && x.nth(i) >= 0; i++) {
            text.append(x.nth(i) / 16).append('-').append(x.nth(i) % 16).append(' ');
        }
        return text.toString().trim();
    }

    private static void movesAre(String stones, String want) {
        String got = moves(Due.stones(stones));
        Due.is(stones + " has the moves " + got + ", due are " + want, got.equals(want) ? 1 : 0, 1);
    }

    private static void orderIs(String when, FrogsOnRing x, String want) {
        for (int stone = 0; stone < want.length(); stone++) {
            int kind = ".gby".indexOf(want.charAt(stone));
            Due.is(when + ": stone " + stone, x.stone(stone, 0), kind == 0 ? NONE : kind);
        }
    }

    private static void constants() {
        Due.is("NONE", NONE, -1);
        Due.is("UNKNOWN", UNKNOWN, -101);
        Due.is("OUTSIDE", OUTSIDE, -102);
        Due.is("STATE", STATE, -103);
        Due.is("FULL", FULL, -104);
    }

    private static void p1NewObject() {
        FrogsOnRing x = new FrogsOnRing();
        for (int what = 0; what <= 7; what++) {
            Due.is("1 count " + what, x.count(what), 0);
        }
        Due.is("1 digest", x.digest(), mix(563, 0, 0, 0, 0, 0, 0, 0, 0));
        Due.is("1 aim", x.aim(), STATE);
        Due.is("1 fewest", x.fewest(), STATE);
        Due.is("1 stone", x.stone(0, 0), UNKNOWN);
        Due.is("1 stone, what", x.stone(0, 9), UNKNOWN);
        Due.is("1 as", x.as(0, 9), UNKNOWN);
        Due.is("1 can", x.can(0, 1), UNKNOWN);
        Due.is("1 move", x.move(0, 1), UNKNOWN);
        Due.is("1 back", x.back(), STATE);
        Due.is("1 many", x.many(), STATE);
        Due.is("1 nth", x.nth(0), STATE);
        Due.is("1 nth, STATE ahead of OUTSIDE", x.nth(64), STATE);
        Due.is("1 ways", x.ways(), STATE);
        Due.is("1 by", x.by(), STATE);
        Due.is("1 reach, STATE ahead of OUTSIDE", x.reach(3), STATE);
        Due.is("1 longest", x.longest(), STATE);
        Due.is("1 game, STATE ahead of OUTSIDE", x.game(2, 2), STATE);
        Due.is("1 luck, STATE ahead of OUTSIDE", x.luck(7, 2), STATE);
        Due.is("1 child, STATE ahead of OUTSIDE", x.child(0, -1, 11), STATE);
        Due.is("1 alike", x.alike(), STATE);
        Due.is("1 kinds", x.kinds(), STATE);
        Due.is("1 image", x.image(), STATE);
        Due.is("1 restore", x.restore(), STATE);
        Due.is("1 stones", x.stones(), STATE);
        Due.is("1 fault", x.fault(), 0);
        Due.is("1 blank", x.blank(), 0);
    }

    private static void p2Letters() {
        FrogsOnRing x = new FrogsOnRing();
        Due.is("2 none", x.letters(0), 0);
        Due.is("2 code 126", x.letters(126), 1);
        Due.is("2 code 127", x.letters(127), OUTSIDE);
        Due.is("2 code 128", x.letters(128), OUTSIDE);
        Due.is("2 code 255 on top", x.letters(0xff67676767676767L), OUTSIDE);
        Due.is("2 code 127 on top", x.letters(0x7f67676767676767L), OUTSIDE);
        Due.is("2 behind a 0", x.letters(0x670067L), OUTSIDE);
        Due.is("2 0 first", x.letters(0x6700L), OUTSIDE);
        Due.is("2 the last behind a 0", x.letters(0x0100676767676767L), OUTSIDE);
        Due.is("2 -1", x.letters(-1), OUTSIDE);
        Due.is("2 refused calls change nothing", x.count(6), 1);
        Due.is("2 eight", x.letters(0x7e01020304050607L), 9);
        Due.is("2 order of bytes", x.digest(), mix(563, 126, 7, 6, 5, 4, 3, 2, 1, 126, 0, 0, 0, 0, 0, 0, 9, 0));
        Due.is("2 seventeen", x.letters(0x6767676767676767L), 17);
        Due.is("2 eight more", x.letters(0x6767676767676767L), FULL);
        Due.is("2 FULL changes nothing", x.count(6), 17);
        Due.is("2 just 24", x.letters(0x67676767676767L), 24);
        Due.is("2 a 25th", x.letters(1), FULL);
        Due.is("2 none at 24", x.letters(0), 24);
        Due.is("2 OUTSIDE ahead of FULL", x.letters(127), OUTSIDE);
        Due.is("2 still 24", x.count(6), 24);
    }

    private static void p3Blank() {
        FrogsOnRing x = Due.stones("r:g.");
        Due.write(x, "r:gg.bb");
        Due.is("3 blank", x.blank(), 7);
        Due.is("3 empty", x.count(6), 0);
        Due.is("3 again", x.blank(), 0);
        Due.is("3 stones stay", x.count(0), 2);
        Due.is("3 written anew", Due.write(x, "w"), 1);
        Due.is("3 the old letters are gone", x.fault(), 1);
    }

    private static void p4Fault() {
        String[] fit = {"", "r", "w", "t", "ro", "r2", "ro2", "ro2:", "t:", "r:.", "r:gbygby.gb", "t:gb", "t:gb/",
            "t:gb/0", "t:gby/01", "to2:gbygby.gb/01234567", "t:....../00000", "w:gbygby.gb", "t:gbygby.gb"};
        for (String text : fit) {
            Due.is("4 fits " + text, faultOf(text), text.length());
        }
        Due.is("4 no form", faultOf("x:gb"), 0);
        Due.is("4 other case", faultOf("R:gb"), 0);
        Due.is("4 two forms", faultOf("rw:gb"), 1);
        Due.is("4 o twice", faultOf("roo:gb"), 2);
        Due.is("4 2 ahead of o", faultOf("r2o:gb"), 2);
        Due.is("4 2 twice", faultOf("r22:gb"), 2);
        Due.is("4 no colon", faultOf("rgb"), 1);
        Due.is("4 two colons", faultOf("r::gb"), 2);
        Due.is("4 no such frog", faultOf("r:gxb"), 3);
        Due.is("4 ten stones", faultOf("r:gbygby.gb."), 11);
        Due.is("4 ten stones of a tree", faultOf("t:gbygby.gb./"), 11);
        Due.is("4 parents of a ring", faultOf("r:gb/0"), 4);
        Due.is("4 parents of a row", faultOf("wo2:gb/0"), 6);
        Due.is("4 parents of one stone", faultOf("t:g/"), 3);
        Due.is("4 its own parent", faultOf("t:gb/1"), 5);
        Due.is("4 parent behind it", faultOf("t:gby/02"), 7);
        Due.is("4 no digit", faultOf("t:gb//"), 5);
        Due.is("4 behind 9", faultOf("t:gbygby.gb/0123456:"), 19);
        Due.is("4 a parent too many", faultOf("t:gb/00"), 6);
        Due.is("4 the first of several", faultOf("r:gx!"), 3);
        Due.is("4 a letter 1", faultOf("\u0001"), 0);
    }

    private static void p5Stones() {
        Due.is("5 two", stonesOf("r:.."), 2);
        Due.is("5 nine", stonesOf("wo2:gbygby.gb"), 9);
        Due.is("5 nine of a tree", stonesOf("to2:gbygby.gb/01234567"), 9);
        Due.is("5 one", stonesOf("r:g"), STATE);
        Due.is("5 none", stonesOf("r:"), STATE);
        Due.is("5 nothing", stonesOf(""), STATE);
        Due.is("5 no stones behind o", stonesOf("ro"), STATE);
        Due.is("5 tree without parents", stonesOf("t:gb."), STATE);
        Due.is("5 tree with no parent behind /", stonesOf("t:gb./"), STATE);
        Due.is("5 a parent missing", stonesOf("t:gb./0"), STATE);
        Due.is("5 ten", stonesOf("r:gbygby.gb."), STATE);
        Due.is("5 something behind", stonesOf("r:gb "), STATE);

        FrogsOnRing x = Due.aiming("w:g.", ".g");
        x.move(0, 1);
        x.image();
        Due.write(x, "r:g");
        Due.is("5 refused", x.stones(), STATE);
        Due.is("5 the page stays", x.count(6), 3);
        Due.is("5 the stones stay", x.count(0), 2);
        Due.is("5 the moves stay", x.count(5), 1);
        Due.is("5 the aim stays", x.fewest(), 0);
        Due.is("5 the image stays", x.restore(), 1);
        Due.is("5 reads stay", x.count(7), 1);
        Due.write(x, "b.");
        Due.is("5 others", x.stones(), 3);
        Due.is("5 the page is empty", x.count(6), 0);
        Due.is("5 the aim is gone", x.fewest(), STATE);
        Due.is("5 the aim is not told", x.stone(1, 2), NONE);
        Due.is("5 the moves are gone", x.count(5), 0);
        Due.is("5 none to take back", x.back(), STATE);
        Due.is("5 the image is gone", x.restore(), STATE);
        Due.is("5 reads", x.count(7), 2);
        orderIs("5", x, "gb.");
        Due.write(x, "w:g.");
        x.stones();
        Due.is("5 a row again", x.stone(0, 1), NONE);
        Due.is("5 reach anew", x.reach(0), 2);
        Due.is("5 stuck in a row", x.reach(1), 1);
        Due.write(x, "r:g.");
        x.stones();
        Due.is("5 the same order in a ring", x.reach(1), 0);
        for (int i = 0; i < 40; i++) {
            Due.write(x, "r2:ggbbyy...");
            x.stones();
        }
        Due.is("5 read again and again", x.reach(0), 7560);
    }

    private static void p6Aim() {
        FrogsOnRing x = new FrogsOnRing();
        Due.write(x, "g.");
        Due.is("6 no stones", x.aim(), STATE);
        Due.is("6 the page stays", x.blank(), 2);
        x = Due.stones("r:gb.y");
        String[] wrong = {"", "gb.", "gb..", "gb.yy", "gbgy", "gb.g", "bb.y", "gbxy", "GB.Y", "gb.y.", "gy.y"};
        for (String text : wrong) {
            Due.write(x, text);
            Due.is("6 no aim is " + text, x.aim(), STATE);
            Due.is("6 no aim is told", x.stone(0, 2), NONE);
            Due.is("6 the page stays", x.blank(), text.length());
        }
        Due.write(x, ".ybg");
        Due.is("6 aim", x.aim(), 3);
        Due.is("6 the page is empty", x.count(6), 0);
        Due.is("6 told 0", x.stone(0, 2), NONE);
        Due.is("6 told 1", x.stone(1, 2), 3);
        Due.is("6 told 2", x.stone(2, 2), 2);
        Due.is("6 told 3", x.stone(3, 2), 1);
        Due.write(x, "y.bb");
        Due.is("6 refused", x.aim(), STATE);
        Due.is("6 the aim stays", x.stone(1, 2), 3);
        x.blank();
        Due.write(x, "y.bg");
        Due.is("6 another", x.aim(), 3);
        Due.is("6 another is told", x.stone(0, 2), 3);
        x = Due.stones("w:..");
        Due.write(x, "..");
        Due.is("6 without frogs", x.aim(), 0);
        Due.is("6 without frogs it is the order", x.fewest(), 0);
    }

    private static void p7Stone() {
        FrogsOnRing x = Due.stones("r:gby.");
        Due.is("7 green", x.stone(0, 0), 1);
        Due.is("7 brown", x.stone(1, 0), 2);
        Due.is("7 yellow", x.stone(2, 0), 3);
        Due.is("7 nobody", x.stone(3, 0), NONE);
        Due.is("7 back in a ring", x.stone(0, 1), 3);
        Due.is("7 back in a ring", x.stone(3, 1), 2);
        Due.is("7 no aim", x.stone(0, 2), NONE);
        Due.is("7 below", x.stone(-1, 0), UNKNOWN);
        Due.is("7 above", x.stone(4, 0), UNKNOWN);
        Due.is("7 UNKNOWN ahead of OUTSIDE", x.stone(MAX, 3), UNKNOWN);
        Due.is("7 what", x.stone(3, 3), OUTSIDE);
        Due.is("7 what", x.stone(0, -1), OUTSIDE);
        Due.is("7 what", x.stone(0, MIN), OUTSIDE);
        x = Due.stones("w:g.");
        Due.is("7 first of a row", x.stone(0, 1), NONE);
        Due.is("7 back in a row", x.stone(1, 1), 0);
        x = Due.stones("to2:g..bygbgb/00123140");
        int[] parents = {NONE, 0, 0, 1, 2, 3, 1, 4, 0};
        for (int stone = 0; stone < parents.length; stone++) {
            Due.is("7 parent of " + stone, x.stone(stone, 1), parents[stone]);
        }
    }

    private static void p8As() {
        FrogsOnRing x = Due.stones("w:gby.");
        int[][] due = {{0, 0, NONE, NONE}, {1, NONE, 1, NONE}, {2, 2, NONE, 2}, {NONE, NONE, NONE, NONE}};
        for (int stone = 0; stone < 4; stone++) {
            for (int kind = 0; kind < 4; kind++) {
                Due.is("8 as(" + stone + ", " + kind + ")", x.as(stone, kind), due[stone][kind]);
            }
        }
        Due.is("8 stone below", x.as(-1, 0), UNKNOWN);
        Due.is("8 stone above", x.as(4, 0), UNKNOWN);
        Due.is("8 UNKNOWN ahead of OUTSIDE", x.as(4, 4), UNKNOWN);
        Due.is("8 kind above", x.as(0, 4), OUTSIDE);
        Due.is("8 kind below", x.as(3, -1), OUTSIDE);
    }

    private static void p9Can() {
        movesAre("w:gg.bb", "0-2 1-2 3-2 4-2");
        movesAre("wo:gg.bb", "1-2 3-2");
        movesAre("w2:ggg.b", "0-3 1-3 2-3 4-3");
        movesAre("w:ggg.", "1-3 2-3");
        movesAre("wo2:gbb.", "0-3");
        movesAre("wo2:gbg.", "2-3");
        movesAre("wo2:ggb.", "1-3");
        movesAre("wo:gy.", "0-2 1-2");
        movesAre("wo:yg.", "0-2 1-2");
        movesAre("wo:yy.", "1-2");
        movesAre("wo:.gy", "2-0");
        movesAre("wo:.bb", "1-0");
        movesAre("w:.g", "");
        movesAre("w:b.", "");
        movesAre("w:.y.", "1-0 1-2");
        movesAre("w:..", "");
        movesAre("w2:bgb.", "1-3");
        movesAre("w:bgb.", "1-3");
        movesAre("w:b.g", "");
        movesAre("r:g.", "0-1");
        movesAre("r:y.", "0-1");
        movesAre("r:gb", "");
        movesAre("r2:gby", "");
        movesAre("r:.yg", "1-0 2-0");
        movesAre("r:y.b", "0-1 2-1");
        movesAre("r:.gb", "1-0 2-0");
        movesAre("r2:.bbg", "1-0 2-0 3-0");
        movesAre("r:g..b", "0-1 3-2");
        movesAre("r:..y", "2-0 2-1");
        movesAre("r:.ggg.", "2-4 3-4");
        movesAre("r2:b.ggb", "3-1 4-1");
        movesAre("t:g.../000", "0-1 0-2 0-3");
        movesAre("t:gb../011", "0-2 0-3");
        movesAre("to:gg../011", "1-2 1-3");
        movesAre("t:gg.../0112", "0-2 0-3 1-2 1-3");
        movesAre("t2:gbb.../001345", "");
        movesAre("t2:gb.b../01113", "0-2 0-4 0-5");
        movesAre("t:gb.b../01113", "0-2 0-4");
        movesAre("t:.gbb/001", "2-0 3-0");
        movesAre("t2:.gybb/0123", "2-0 3-0");
        movesAre("t2:.bb.y/0122", "1-0 2-0 4-0");
        movesAre("t2:g.y.b/0120", "0-1 2-1 2-3");
        FrogsOnRing x = Due.stones("w:gg.bb");
        Due.is("9 can", x.can(0, 2), 1);
        Due.is("9 green can't go back", Due.stones("w:.g").can(1, 0), 0);
        Due.is("9 it can't", x.can(0, 1), 0);
        Due.is("9 nobody", x.can(2, 1), 0);
        Due.is("9 its own", x.can(0, 0), 0);
        Due.is("9 its own in a ring", Due.stones("r2:gby").can(0, 0), 0);
        Due.is("9 changes nothing", x.count(5), 0);
        int[][] wrong = {{-1, 2}, {5, 2}, {0, -1}, {0, 5}, {MIN, 0}, {0, MAX}, {9, 9}};
        for (int[] pair : wrong) {
            Due.is("9 no stones " + pair[0] + ", " + pair[1], x.can(pair[0], pair[1]), UNKNOWN);
        }
    }

    private static void p10Move() {
        FrogsOnRing x = Due.stones("w:yg.b");
        Due.is("10 first", x.move(0, 2), 1);
        orderIs("10 the yellow went", x, ".gyb");
        Due.is("10 second", x.move(3, 0), STATE);
        Due.is("10 nobody", x.move(0, 1), STATE);
        Due.is("10 somebody is there", x.move(1, 2), STATE);
        Due.is("10 refused ones change nothing", x.count(5), 1);
        orderIs("10 nothing changed", x, ".gyb");
        Due.is("10 UNKNOWN", x.move(4, 0), UNKNOWN);
        Due.is("10 UNKNOWN", x.move(2, 4), UNKNOWN);
        Due.is("10 UNKNOWN", x.move(-1, 2), UNKNOWN);
        Due.is("10 back over the green", x.move(2, 0), 2);
        orderIs("10", x, "yg.b");

        x = Due.stones("r:g..");
        for (int made = 0; made < 60; made++) {
            Due.is("10 made", x.move(made % 3, (made + 1) % 3), made + 1);
        }
        Due.is("10 UNKNOWN ahead of FULL", x.move(0, 3), UNKNOWN);
        Due.is("10 STATE ahead of FULL", x.move(0, 2), STATE);
        Due.is("10 FULL", x.move(0, 1), FULL);
        Due.is("10 it can, though", x.can(0, 1), 1);
        Due.is("10 FULL changes nothing", x.count(5), 60);
        orderIs("10 full", x, "g..");
        Due.is("10 one back", x.back(), 59);
        Due.is("10 one more", x.move(2, 0), 60);
    }

    private static void p11Back() {
        FrogsOnRing x = Due.stones("w:gg.bb");
        Due.is("11 none", x.back(), STATE);
        x.move(0, 2);
        x.move(1, 0);
        Due.is("11 a refused move is none", x.back(), 0);
        orderIs("11 the leap is taken back", x, "gg.bb");
        x.move(1, 2);
        x.move(3, 1);
        x.move(4, 3);
        orderIs("11 three", x, "gbgb.");
        Due.is("11 the last first", x.back(), 2);
        orderIs("11 two", x, "gbg.b");
        Due.is("11 then the second", x.back(), 1);
        orderIs("11 one", x, "g.gbb");
        Due.is("11 then the first", x.back(), 0);
        orderIs("11 none", x, "gg.bb");
        Due.is("11 none left", x.back(), STATE);
    }

    private static void p12Many() {
        Due.is("12 row", Due.stones("w:gg.bb").many(), 4);
        Due.is("12 stuck", Due.stones("w:bb.gg").many(), 0);
        Due.is("12 no frogs", Due.stones("r:...").many(), 0);
        Due.is("12 the same from and to is one", Due.stones("r:y.").many(), 1);
        Due.is("12 by two ways is one", Due.stones("r:y.b").many(), 2);
        Due.is("12 yellows", Due.stones("r:.y.y.y.y.").many(), 8);
    }

    private static void p13Nth() {
        FrogsOnRing x = Due.stones("w:gg.bb");
        int[] due = {2, 18, 50, 66, NONE};
        for (int i = 0; i < due.length; i++) {
            Due.is("13 nth " + i, x.nth(i), due[i]);
        }
        Due.is("13 63", x.nth(63), NONE);
        Due.is("13 64", x.nth(64), OUTSIDE);
        Due.is("13 -1", x.nth(-1), OUTSIDE);
        Due.is("13 MIN", x.nth(MIN), OUTSIDE);
        Due.is("13 MAX", x.nth(MAX), OUTSIDE);
        Due.is("13 to by number, not by way", Due.stones("w:.y.").nth(0), 16);
    }

    private static void p14Fewest() {
        Due.is("14 no aim", Due.stones("w:g.").fewest(), STATE);
        Due.is("14 gg.bb", Due.aiming("w:gg.bb", "bb.gg").fewest(), 8);
        Due.is("14 by OTHER too", Due.aiming("wo:gg.bb", "bb.gg").fewest(), 8);
        Due.is("14 it is the aim", Due.aiming("w:gg.bb", "gg.bb").fewest(), 0);
        Due.is("14 it can't", Due.aiming("w:.g", "g.").fewest(), NONE);
        Due.is("14 step by step", Due.aiming("w:g....", "....g").fewest(), 4);
        Due.is("14 leaps are fewer", Due.aiming("w:gb.", ".bg").fewest(), 1);
        Due.is("14 two leaps", Due.aiming("w2:gbb.b.", ".bb.bg").fewest(), 2);
        Due.is("14 round the ring", Due.aiming("r:.g...", "g....").fewest(), 4);
        FrogsOnRing x = Due.aiming("w:g..", "..g");
        Due.is("14 ahead", x.fewest(), 2);
        x.move(0, 1);
        Due.is("14 of the order now", x.fewest(), 1);
        x.move(1, 2);
        Due.is("14 there", x.fewest(), 0);
        x.back();
        Due.is("14 taken back", x.fewest(), 1);
        Due.write(x, "g..");
        x.aim();
        Due.is("14 another aim", x.fewest(), NONE);
    }

    private static void p15Ways() {
        Due.is("15 no aim", Due.stones("w:g.").ways(), STATE);
        Due.is("15 gg.bb", Due.aiming("w:gg.bb", "bb.gg").ways(), 2);
        Due.is("15 it is the aim", Due.aiming("w:g.", "g.").ways(), 1);
        Due.is("15 it can't", Due.aiming("w:.g", "g.").ways(), 0);
        Due.is("15 two frogs in any row", Due.aiming("w:g..b..", "..gb..").ways(), 1);
        Due.is("15 both one step", Due.aiming("w:g...b", ".g.b.").ways(), 2);
        Due.is("15 both two steps", Due.aiming("w:g.....b", "..g.b..").ways(), 6);
        Due.is("15 longer ways don't count", Due.aiming("w:gb.", ".bg").ways(), 1);
        Due.is("15 from and to tell a move", Due.aiming("r:y.b", ".yb").ways(), 1);
        Due.is("15 a ring of two", Due.aiming("r:y.", ".y").ways(), 1);
        // Three go two steps each: six moves in any row that keeps each one's two.
        Due.is("15 many", Due.aiming("w:y..y..y..", "..y..y..y").ways(), 90);
    }

    private static void p16By() {
        Due.is("16 no aim", Due.stones("w:g.").by(), STATE);
        Due.is("16 gg.bb", Due.aiming("w:gg.bb", "bb.gg").by(), 18);
        Due.is("16 it is the aim", Due.aiming("w:g.", "g.").by(), NONE);
        Due.is("16 it can't", Due.aiming("w:.g", "g.").by(), NONE);
        Due.is("16 the least from", Due.aiming("w:g...b", ".g.b.").by(), 1);
        Due.is("16 one way alone", Due.aiming("w:g...b", "g..b.").by(), 67);
        Due.is("16 the least to", Due.aiming("r:y...", "..y.").by(), 1);
        Due.is("16 the yellow the other way", Due.aiming("r:y....", "...y.").by(), 4);
    }

    private static void p17Reach() {
        FrogsOnRing x = Due.stones("w:gg.bb");
        Due.is("17 orders", Due.stones("w:g...").reach(0), 4);
        Due.is("17 stuck", Due.stones("w:g...").reach(1), 1);
        Due.is("17 greatest", Due.stones("w:g...").reach(2), 3);
        Due.is("17 two frogs", Due.stones("w:g.b").reach(0), 6);
        Due.is("17 two frogs, stuck", Due.stones("w:g.b").reach(1), 1);
        Due.is("17 two frogs, greatest", Due.stones("w:g.b").reach(2), 3);
        Due.is("17 stuck at once", Due.stones("w:b.g").reach(0), 1);
        Due.is("17 it is stuck", Due.stones("w:b.g").reach(1), 1);
        Due.is("17 nowhere", Due.stones("w:b.g").reach(2), 0);
        Due.is("17 no frogs", Due.stones("r:.........").reach(0), 1);
        Due.is("17 no frogs are stuck", Due.stones("r:..").reach(1), 1);
        Due.is("17 all orders", Due.stones("r2:ggbbyy...").reach(0), 7560);
        Due.is("17 of a ring none is stuck", Due.stones("r:g..").reach(1), 0);
        Due.is("17 round", Due.stones("r:g..").reach(2), 2);
        Due.is("17 -1", x.reach(-1), OUTSIDE);
        Due.is("17 3", x.reach(3), OUTSIDE);
        Due.is("17 MAX", x.reach(MAX), OUTSIDE);
        x = Due.stones("w:g...");
        x.move(0, 1);
        Due.is("17 of the order now", x.reach(0), 3);
        x.back();
        Due.is("17 taken back", x.reach(0), 4);
    }

    private static void p18Longest() {
        Due.is("18 ring", Due.stones("r:g.").longest(), STATE);
        Due.is("18 yellow", Due.stones("w:y.").longest(), STATE);
        Due.is("18 row", Due.stones("w:g...").longest(), 3);
        Due.is("18 steps rather than leaps", Due.stones("w:g.b").longest(), 3);
        Due.is("18 stuck", Due.stones("w:b.g").longest(), 0);
        Due.is("18 no frogs", Due.stones("w:..").longest(), 0);
        Due.is("18 gg..", Due.stones("w:gg..").longest(), 4);
        Due.is("18 tree", Due.stones("t:g.../001").longest(), 2);
        Due.is("18 tree with a brown", Due.stones("t:...b/012").longest(), 3);
        Due.is("18 eight", Due.stones("w:g........").longest(), 8);
        // Of all 1680 orders of three greens and three browns the last one by its number: 1-5, 0-1, 2-0, 1-6.
        Due.is("18 the last order", Due.stones("t:ggbbb...g/00001110").longest(), 4);
        FrogsOnRing x = Due.stones("w:g...");
        x.move(0, 1);
        Due.is("18 of the order now", x.longest(), 2);
    }

    private static void p19Game() {
        Due.is("19 ring", Due.stones("r:g.").game(0, 0), STATE);
        Due.is("19 yellow", Due.stones("w:gy.").game(0, 0), STATE);
        Due.is("19 STATE ahead of OUTSIDE", Due.stones("r:g.").game(2, 2), STATE);
        FrogsOnRing x = Due.stones("w:g.");
        Due.is("19 who has a move wins", x.game(0, 0), 1);
        Due.is("19 by it", x.game(0, 1), 1);
        Due.is("19 who has none loses", x.game(1, 0), 0);
        Due.is("19 by none", x.game(1, 1), NONE);
        Due.is("19 who", x.game(2, 0), OUTSIDE);
        Due.is("19 who", x.game(-1, 0), OUTSIDE);
        Due.is("19 what", x.game(0, 2), OUTSIDE);
        Due.is("19 what", x.game(0, -1), OUTSIDE);
        // The green steps up to the brown, which leaps and leaves it a step; then the brown has none.
        x = Due.stones("w:g.b");
        Due.is("19 greens begin", x.game(0, 0), 1);
        Due.is("19 greens by", x.game(0, 1), 1);
        Due.is("19 browns begin", x.game(1, 0), 1);
        Due.is("19 browns by", x.game(1, 1), 33);
        x = Due.stones("w:bg");
        Due.is("19 nobody can", x.game(0, 0), 0);
        Due.is("19 nobody can", x.game(1, 0), 0);
        x = Due.stones("t:.g.b/000");
        Due.is("19 greens without a move", x.game(0, 0), 0);
        Due.is("19 browns with one", x.game(1, 0), 1);
        Due.is("19 browns by it", x.game(1, 1), 48);
        // Whoever begins steps up to the other one, who leaps; one step each, and the second one has none left.
        x = Due.stones("t:.g.b./0120");
        Due.is("19 greens begin and lose", x.game(0, 0), 0);
        Due.is("19 greens by none", x.game(0, 1), NONE);
        Due.is("19 browns begin and win", x.game(1, 0), 1);
        Due.is("19 browns by", x.game(1, 1), 50);
        x.child(2, 1, 0);
        Due.is("19 greens still by none", x.game(0, 1), NONE);
        x.child(2, 1, 0);
        Due.is("19 browns still by", x.game(1, 1), 50);
        x.move(1, 2);
        Due.is("19 of the order now", x.game(1, 1), 49);
        // Behind 4-2 the green has one step and is stuck, behind 5-3 it has one leap: both win, the least is told.
        x = Due.stones("t:.g..bb./001232");
        Due.is("19 the least winning move", x.game(1, 1), 66);
    }

    private static void p20Luck() {
        Due.is("20 no aim", Due.stones("w:g.").luck(0, 0), STATE);
        Due.is("20 no frogs", Due.aiming("w:..", "..").luck(0, 0), STATE);
        Due.is("20 STATE ahead of OUTSIDE", Due.aiming("w:..", "..").luck(7, 2), STATE);
        FrogsOnRing x = Due.aiming("w:g...b", ".g.b.");
        int[][] wrong = {{-1, 0}, {7, 0}, {0, -1}, {0, 2}, {MIN, 0}, {MAX, 1}};
        for (int[] pair : wrong) {
            Due.is("20 luck(" + pair[0] + ", " + pair[1] + ")", x.luck(pair[0], pair[1]), OUTSIDE);
        }
        lucky("20 not yet", x, 0, 0, 1);
        lucky("20 once", x, 1, 0, 1);
        lucky("20 twice", x, 2, 1, 2);
        lucky("20 gone on", x, 3, 0, 1);
        x = Due.aiming("w:g...b", "g...b");
        lucky("20 at once", x, 0, 1, 1);
        // The green leaps, then goes on; the brown goes back, or leaps back over it.
        x = Due.aiming("w:gb..", ".bg.");
        lucky("20 leap", x, 1, 1, 2);
        lucky("20 leap or wait", x, 2, 1, 2 * 2);
        x = Due.aiming("w:.gb", ".gb");
        lucky("20 the brown leaps, the green waits", x, 6, 1, 64);
        x = Due.aiming("w:.gb", "bg.");
        lucky("20 the brown has leapt", x, 1, 1, 2);
        lucky("20 the least by to", Due.aiming("w:.y.", "y.."), 1, 1, 1);
        lucky("20 not the greater", Due.aiming("w:.y.", "..y"), 1, 0, 1);
        lucky("20 nine frogs wait", Due.aiming("r:gbygbygby", "gbygbygby"), 6, 1, 1);
        lucky("20 eight frogs", Due.aiming("w:ggggggg.g", "ggggggg.g"), 6, 46656, 262144);
    }

    private static void lucky(String when, FrogsOnRing x, int times, int above, int below) {
        int a = above;
        int b = below;
        while (b != 0) {
            int rest = a % b;
            a = b;
            b = rest;
        }
        Due.is(when + ", above", x.luck(times, 0), above / a);
        Due.is(when + ", below", x.luck(times, 1), below / a);
    }

    private static void p21Child() {
        Due.is("21 no frogs", Due.stones("w:..").child(1, 1, 0), STATE);
        Due.is("21 STATE ahead of OUTSIDE", Due.stones("w:..").child(0, -1, 11), STATE);
        FrogsOnRing x = Due.stones("w:g....");
        Due.is("21 times 0", x.child(0, 1, 0), OUTSIDE);
        Due.is("21 times 100", x.child(100, 1, 0), OUTSIDE);
        Due.is("21 seed -1", x.child(1, -1, 0), OUTSIDE);
        Due.is("21 seed MIN", x.child(1, MIN, 0), OUTSIDE);
        Due.is("21 what -1", x.child(1, 1, -1), OUTSIDE);
        Due.is("21 what 11", x.child(1, 1, 11), OUTSIDE);
        Due.is("21 the seed behind 0", x.child(1, 0, 10), 12345);
        Due.is("21 the seed behind 1", x.child(1, 1, 10), 1103527590);
        Due.is("21 the seed behind MAX", x.child(1, MAX, 10), (int) ((MAX * 1103515245L + 12345) % (1L << 31)));
        Due.is("21 one is gone", x.child(3, 7, 3), 1);
        Due.is("21 from there", x.child(3, 7, 0), NONE);
        Due.is("21 no such stone", x.child(3, 7, 8), NONE);
        Due.is("21 moves", x.child(3, 7, 9), 3);
        Due.is("21 waits are no moves", x.child(99, 7, 9), 4);
        Due.is("21 it would be", x.count(5), 0);
        orderIs("21 nothing changed", x, "g....");
        // Behind 1 the seed is 1103527590, by 65536 that is 16838.
        x = Due.stones("w:g...b");
        Due.is("21 the draw 16838 by 2 lets the first one go", x.child(1, 1, 1), 1);
        x = Due.stones("w:g.g.b");
        Due.is("21 the draw 16838 by 3 lets the third one go", 16838 % 3, 2);
        Due.is("21 the brown went", x.child(1, 1, 3), 2);
        Due.is("21 the least by to", Due.stones("w:.y.").child(1, 1, 0), 3);
        // 12345 by 65536 is 0: the first one, as they stand then.
        x = Due.stones("w:gg.");
        Due.is("21 over the other", x.child(1, 0, 2), 1);
        Due.is("21 over the other", x.child(1, 0, 0), NONE);
    }

    private static void p22Alike() {
        Due.is("22 no aim", Due.stones("r:g.").alike(), STATE);
        Due.is("22 no ring", Due.aiming("w:g.", "g.").alike(), STATE);
        Due.is("22 a tree", Due.aiming("t:g./0", "g.").alike(), STATE);
        Due.is("22 the same", Due.aiming("r:gb.", "gb.").alike(), 0);
        Due.is("22 by one", Due.aiming("r:gb.", ".gb").alike(), 1);
        Due.is("22 by two", Due.aiming("r:gb.", "b.g").alike(), 2);
        Due.is("22 by none", Due.aiming("r:gb.", "bg.").alike(), NONE);
        Due.is("22 the least", Due.aiming("r:g.g.g.", ".g.g.g").alike(), 1);
        Due.is("22 by eight", Due.aiming("r:gbygby.gb", "bygby.gbg").alike(), 8);
        FrogsOnRing x = Due.aiming("r:g...", "..g.");
        x.move(0, 1);
        Due.is("22 of the order now", x.alike(), 1);
    }

    private static void p23Kinds() {
        Due.is("23 row", Due.stones("w:g.").kinds(), STATE);
        Due.is("23 tree", Due.stones("t:g./0").kinds(), STATE);
        Due.is("23 one frog", Due.stones("r:g....").kinds(), 1);
        Due.is("23 no frogs", Due.stones("r:...").kinds(), 1);
        Due.is("23 two greens of four", Due.stones("r:gg..").kinds(), 2);
        Due.is("23 gg.bb", Due.stones("r:gg.bb").kinds(), 6);
        Due.is("23 stuck", Due.stones("r:gby").kinds(), 1);
        Due.is("23 all orders, none turns to itself", Due.stones("r2:ggbbyy...").kinds(), 7560 / 9);
    }

    private static void p24Image() {
        FrogsOnRing x = Due.stones("r:g..");
        Due.is("24 at first", x.image(), 0);
        x.move(0, 1);
        Due.is("24 later", x.image(), 1);
        x.move(1, 2);
        Due.is("24 the latest is kept", x.restore(), 1);
        orderIs("24", x, ".g.");
    }

    private static void p25Restore() {
        FrogsOnRing x = Due.stones("r:g..");
        Due.is("25 none kept", x.restore(), STATE);
        x.move(0, 1);
        x.image();
        x.move(1, 2);
        x.move(2, 0);
        Due.is("25", x.restore(), 1);
        orderIs("25 the order", x, ".g.");
        Due.is("25 made", x.count(5), 1);
        Due.is("25 the moves made are those", x.back(), 0);
        orderIs("25 back", x, "g..");
        x.move(0, 1);
        x.move(1, 2);
        Due.is("25 again", x.restore(), 1);
        Due.is("25 again, back", x.back(), 0);
        orderIs("25 again", x, "g..");
        FrogsOnRing y = Due.stones("r:y..");
        y.move(0, 1);
        y.move(1, 2);
        y.image();
        y.back();
        y.back();
        y.move(0, 2);
        y.move(2, 1);
        y.move(1, 0);
        Due.is("25 other moves since", y.restore(), 2);
        orderIs("25 as it was kept", y, "..y");
        Due.is("25 its last move back", y.back(), 1);
        orderIs("25 where that was from", y, ".y.");
        Due.is("25 its first move back", y.back(), 0);
        orderIs("25 where it began", y, "y..");
        Due.write(x, "..g");
        x.aim();
        Due.is("25 the aim is not of it", x.restore(), 1);
        Due.is("25 the aim stays", x.fewest(), 1);
        Due.write(x, "r:g..");
        x.stones();
        Due.is("25 other stones since", x.restore(), STATE);
        Due.is("25 nothing changed", x.count(5), 0);
        x.image();
        Due.is("25 kept anew", x.restore(), 0);
    }

    private static void p26Count() {
        FrogsOnRing x = Due.stones("ro2:gybg.yyb");
        int[] due = {8, 7, 2, 2, 3, 0, 0, 1};
        for (int what = 0; what < due.length; what++) {
            Due.is("26 count " + what, x.count(what), due[what]);
        }
        x.move(3, 4);
        Due.write(x, "abc");
        Due.is("26 made", x.count(5), 1);
        Due.is("26 letters", x.count(6), 3);
        x.stones();
        Due.is("26 not read", x.count(7), 1);
        Due.is("26 -1", x.count(-1), OUTSIDE);
        Due.is("26 8", x.count(8), OUTSIDE);
        Due.is("26 MIN", x.count(MIN), OUTSIDE);
    }

    private static void p27Digest() {
        FrogsOnRing x = Due.stones("w:g.b");
        long h = mix(563, 1, -1, -1, -1, 0, -1, 2, 1, -1);
        h = mix(h, 1, 33, 6, 1, 3);
        Due.is("27 without an aim", x.digest(), mix(h, 3, 2, 1, 1, 0, 0, 0, 1));
        Due.write(x, "b.g");
        h = mix(h, 'b', '.', 'g');
        Due.is("27 with a page", x.digest(), mix(h, 3, 2, 1, 1, 0, 0, 3, 1));
        x.aim();
        h = mix(563, 1, -1, 2, -1, 0, -1, 2, 1, 1);
        h = mix(h, 1, 33, 6, 1, 3, 3, 2, 1);
        Due.is("27 with an aim", x.digest(), mix(h, 3, 2, 1, 1, 0, 0, 0, 1));
        Due.is("27 changes nothing", x.digest(), mix(h, 3, 2, 1, 1, 0, 0, 0, 1));
        x = new FrogsOnRing();
        x.letters('z');
        Due.is("27 no stones", x.digest(), mix(563, 'z', 0, 0, 0, 0, 0, 0, 1, 0));
    }

    private static void refusedCallsChangeNothing() {
        FrogsOnRing x = Due.aiming("w:gy.bb", "bb.yg");
        x.move(1, 2);
        x.image();
        Due.write(x, "ro2:gb/");
        long before = x.digest();
        long[] answers = {x.letters(127), x.letters(0x6700), x.stones(), x.aim(), x.stone(5, 0), x.stone(0, 3),
            x.as(-1, 0), x.as(0, 4), x.can(0, 5), x.move(5, 0), x.move(0, 4), x.nth(64), x.reach(3), x.longest(),
            x.game(0, 0), x.luck(7, 0), x.luck(0, 2), x.child(0, 0, 0), x.child(1, -1, 0), x.child(1, 0, 11),
            x.alike(), x.kinds(), x.count(8)};
        for (int i = 0; i < answers.length; i++) {
            Due.is("refused " + i, answers[i] <= UNKNOWN && answers[i] >= FULL ? 1 : 0, 1);
        }
        Due.is("nothing changed", x.digest(), before);
        Due.is("the image stays", x.restore(), 1);
        Due.is("the move stays", x.back(), 0);
        orderIs("as it began", x, "gy.bb");
        Due.is("the page stays", x.blank(), 7);
    }

    public static void main(String[] args) {
        constants();
        refusedCallsChangeNothing();
        p1NewObject();
        p2Letters();
        p3Blank();
        p4Fault();
        p5Stones();
        p6Aim();
        p7Stone();
        p8As();
        p9Can();
        p10Move();
        p11Back();
        p12Many();
        p13Nth();
        p14Fewest();
        p15Ways();
        p16By();
        p17Reach();
        p18Longest();
        p19Game();
        p20Luck();
        p21Child();
        p22Alike();
        p23Kinds();
        p24Image();
        p25Restore();
        p26Count();
        p27Digest();
        Due.end();
    }
}
