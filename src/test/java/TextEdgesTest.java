/** The sentences about texts (Terms, promises 1 to 8) that name an edge, each with a test of its own. */
public final class TextEdgesTest {
    private static final int NONE = FrogsOnRing.NONE;
    private static final int UNKNOWN = FrogsOnRing.UNKNOWN;
    private static final int OUTSIDE = FrogsOnRing.OUTSIDE;
    private static final int STATE = FrogsOnRing.STATE;
    private static final int FULL = FrogsOnRing.FULL;
    private static final int MIN = Integer.MIN_VALUE;
    private static final int MAX = Integer.MAX_VALUE;

    private static long bytes(int many, int code) {
        long w = 0;
        for (int place = 0; place < many; place++) {
            w |= (long) code << (8 * place);
        }
        return w;
    }

    private static long withByte(long w, int place, int code) {
        return (w & ~(255L << (8 * place))) | ((long) code << (8 * place));
    }

    private static FrogsOnRing page(String text) {
        FrogsOnRing x = new FrogsOnRing();
        Due.write(x, text);
        return x;
    }

    private static void isText(String text, int stones) {
        Due.is(page(text).fault(), text.length());
        Due.is(page(text).stones(), stones);
    }

    private static void isNone(String text, int fault) {
        FrogsOnRing x = page(text);
        Due.is(x.fault(), fault);
        Due.is(x.stones(), STATE);
        Due.is(x.count(6), text.length());
        Due.is(x.count(7), 0);
    }

    // ---- Terms: what a text of STONES is

    private static void theFirstLetterIsAForm() {
        Due.says("Terms: \"r\", \"w\" or \"t\"");
        isText("r:g.", 2);
        isText("w:g.", 2);
        isText("t:g./0", 2);
        for (String text : new String[] {"s:g.", "q:g.", "x:g.", "v:g.", "u:g.", "R:g.", ":g.", "g.", "2:g.", "o:g."}) {
            isNone(text, 0);
        }
        isNone("rr:g.", 1);
        isNone("tw:g.", 1);
    }

    private static void perhapsOtherPerhapsTwo() {
        Due.says("Terms: perhaps \"o\", perhaps \"2\", \":\"");
        isText("ro:g.", 2);
        isText("r2:g.", 2);
        isText("ro2:g.", 2);
        isText("wo2:g.", 2);
        isText("to2:g./0", 2);
        isNone("roo:g.", 2);
        isNone("r22:g.", 2);
        isNone("r2o:g.", 2);
        isNone("ro22:g.", 3);
        isNone("r1:g.", 1);
        isNone("r3:g.", 1);
        isNone("rO:g.", 1);
        isNone("rg.", 1);
        isNone("ro;g.", 2);
        isNone("r::g.", 2);
        isNone("r", 1);
        isNone("ro", 2);
        isNone("ro2", 3);
        isNone("ro2:", 4);
    }

    private static void twoToNineLetters() {
        Due.says("Terms: two to nine letters");
        String letters = "gb.ygb.yg";
        for (int many = 2; many <= 9; many++) {
            isText("r:" + letters.substring(0, many), many);
            isText("w:" + letters.substring(0, many), many);
            isText("t:" + letters.substring(0, many) + "/" + "01234567".substring(0, many - 1), many);
        }
        isNone("r:", 2);
        isNone("w:g", 3);
        isNone("t:g", 3);
        isNone("r:gb.ygb.ygb", 11);
        isNone("w:gb.ygb.yg.", 11);
        isNone("t:gb.ygb.ygb", 11);
        isNone("t:gb.ygb.ygb/012345678", 11);
    }

    private static void oneOfFourLetters() {
        Due.says("Terms: \".\" (nobody), \"g\" a GREEN, \"b\" a BROWN, \"y\" a YELLOW");
        FrogsOnRing x = Due.stones("r:.gby");
        Due.is(x.stone(0, 0), NONE);
        Due.is(x.stone(1, 0), 1);
        Due.is(x.stone(2, 0), 2);
        Due.is(x.stone(3, 0), 3);
        for (int code = 1; code <= 126; code++) {
            boolean fits = ".gby".indexOf(code) >= 0;
            FrogsOnRing z = page("r:gb" + (char) code);
            Due.is(z.fault(), fits ? 5 : 4);
            Due.is(z.stones(), fits ? 3 : STATE);
        }
    }

    private static void theParentIsLess() {
        Due.says("Terms: of a TREE then \"/\" and of each STONE from 1 on its PARENT (a digit, less than the STONE)");
        for (int stone = 1; stone < 9; stone++) {
            String ahead = "t:.gb.y.gb./" + "00000000".substring(0, stone - 1);
            String behind = "00000000".substring(stone);
            for (int code = 1; code <= 126; code++) {
                boolean fits = code >= '0' && code < '0' + stone;
                FrogsOnRing x = page(ahead + (char) code + behind);
                Due.is(x.fault(), fits ? 20 : 11 + stone);
                Due.is(x.stones(), fits ? 9 : STATE);
                Due.is(x.stone(stone, 1), fits ? code - '0' : UNKNOWN);
            }
        }
        isNone("t:g.", 4);
        isNone("t:g./", 5);
        isNone("t:g.b/0", 7);
        isNone("t:g./00", 6);
        isNone("t:g/", 3);
        isNone("t:/", 2);
        isNone("t:g.0", 4);
        isNone("t:g.//0", 5);
        isNone("r:g./0", 4);
        isNone("w:g./0", 4);
        isNone("w:g.b.y.gb./01234567", 11);
    }

    // ---- 1, 2, 3

    private static void aNewObjectHasNone() {
        Due.says("1: no STONES, no AIM");
        FrogsOnRing x = new FrogsOnRing();
        Due.is(x.count(0), 0);
        Due.is(x.many(), STATE);
        Due.is(x.fewest(), STATE);
        Due.is(x.stone(0, 2), UNKNOWN);
        Due.is(x.blank(), 0);
        Due.is(x.restore(), STATE);
    }

    private static void upToEightLetters() {
        Due.says("2: up to eight, until a byte that is 0: how many THE PAGE has");
        for (int many = 0; many <= 8; many++) {
            FrogsOnRing x = new FrogsOnRing();
            Due.is(x.letters(bytes(many, 'g')), many);
            Due.is(x.letters(0), many);
            Due.is(x.letters(bytes(many, 1)), 2 * many);
            Due.is(x.blank(), 2 * many);
        }
    }

    private static void theLowestByteFirst() {
        Due.says("2: the lowest byte first, behind THE PAGE");
        FrogsOnRing x = new FrogsOnRing();
        Due.is(x.letters(0x3a72L), 2);
        Due.is(x.letters(0x622e67L), 5);
        Due.is(x.letters(0x79L), 6);
        Due.is(x.stones(), 4);
        Due.is(x.stone(0, 0), 1);
        Due.is(x.stone(1, 0), NONE);
        Due.is(x.stone(2, 0), 2);
        Due.is(x.stone(3, 0), 3);
        Due.is(x.letters(0x2e622e6762793a72L), 8);
        Due.is(x.stones(), 6);
        Due.is(x.stone(0, 0), 3);
        Due.is(x.stone(5, 0), NONE);
    }

    private static void aByteAbove126() {
        Due.says("2: OUTSIDE: a byte above 126");
        FrogsOnRing x = new FrogsOnRing();
        for (int place = 0; place < 8; place++) {
            for (int code : new int[] {127, 128, 129, 254, 255}) {
                Due.is(x.letters(withByte(bytes(place, 'g'), place, code)), OUTSIDE);
                Due.is(x.letters(withByte(bytes(8, 'g'), place, code)), OUTSIDE);
            }
            Due.is(x.count(6), 0);
            Due.is(new FrogsOnRing().letters(withByte(bytes(8, 'g'), place, 126)), 8);
            Due.is(new FrogsOnRing().letters(withByte(bytes(8, 'g'), place, 1)), 8);
        }
        Due.is(x.letters(Long.MIN_VALUE), OUTSIDE);
        Due.is(x.letters(Long.MAX_VALUE), OUTSIDE);
        Due.is(x.letters(-1), OUTSIDE);
        Due.is(x.count(6), 0);
    }

    private static void oneBehindAZero() {
        Due.says("2: OUTSIDE: one behind a 0 that is not 0");
        FrogsOnRing x = new FrogsOnRing();
        for (int zero = 0; zero < 7; zero++) {
            for (int place = zero + 1; place < 8; place++) {
                for (int code : new int[] {1, 'g', 126, 127, 255}) {
                    Due.is(x.letters(withByte(bytes(zero, 'g'), place, code)), OUTSIDE);
                }
            }
            Due.is(x.letters(withByte(bytes(8, 'g'), zero, 0)), OUTSIDE);
        }
        Due.is(x.count(6), 0);
        Due.is(x.letters(withByte(bytes(8, 'g'), 7, 0)), 7);
    }

    private static void above24() {
        Due.says("2: FULL: above 24");
        for (int had = 16; had <= 24; had++) {
            for (int more = 0; more <= 8; more++) {
                FrogsOnRing x = new FrogsOnRing();
                x.letters(bytes(8, 'a'));
                x.letters(bytes(8, 'b'));
                x.letters(bytes(had - 16, 'c'));
                boolean fits = had + more <= 24;
                Due.is(x.letters(bytes(more, 'd')), fits ? had + more : FULL);
                Due.is(x.count(6), fits ? had + more : had);
            }
        }
        Due.says("2: FULL changes nothing, and OUTSIDE is told ahead of it");
        FrogsOnRing x = new FrogsOnRing();
        x.letters(bytes(8, 'a'));
        x.letters(bytes(8, 'a'));
        x.letters(bytes(7, 'a'));
        long before = x.digest();
        Due.is(x.letters(bytes(2, 'd')), FULL);
        Due.is(x.letters(withByte(bytes(2, 'd'), 1, 127)), OUTSIDE);
        Due.is(x.letters(withByte(0, 1, 'd')), OUTSIDE);
        Due.is(x.digest(), before);
        Due.is(x.letters('e'), 24);
        Due.is(x.letters('e'), FULL);
        Due.is(x.letters(0), 24);
        Due.is(x.blank(), 24);
        Due.is(x.letters('e'), 1);
    }

    private static void anEmptyPage() {
        Due.says("3: THE PAGE is empty: how many letters it had");
        FrogsOnRing x = Due.aiming("w:g.", ".g");
        Due.is(x.blank(), 0);
        Due.write(x, "to2:.gb.y.gb./0123456788");
        Due.is(x.count(6), 24);
        Due.is(x.blank(), 24);
        Due.is(x.blank(), 0);
        Due.is(x.count(6), 0);
        Due.is(x.fault(), 0);
        Due.is(x.stones(), STATE);
        Due.is(x.aim(), STATE);
        Due.is(x.count(0), 2);
        Due.is(x.fewest(), 1);
        Due.is(x.letters('t'), 1);
        Due.is(x.fault(), 1);
        Due.is(x.letters('w'), 2);
        Due.is(x.fault(), 1);
    }

    // ---- 4

    private static void thePlaceOfTheFirstLetter() {
        Due.says("4: the place of the first letter of THE PAGE that no STONES have there, behind those ahead of it");
        String[] texts = {"ro2:gb.ygb.yg", "w:gb", "wo:gb.", "r2:....y....", "t:gb/0", "to:gby./011", "to2:gb.ygb.yg/01234567",
            "t2:gby/01"};
        for (String text : texts) {
            for (int place = 0; place <= text.length(); place++) {
                eachLetterAt(text, place);
            }
        }
    }

    private static void eachLetterAt(String text, int place) {
        FrogsOnRing x = new FrogsOnRing();
        for (int code = 1; code <= 126; code++) {
            if (code % 40 == 0) {
                x = new FrogsOnRing();
            }
            String behind = place < text.length() ? text.substring(place + 1) : "";
            String other = text.substring(0, place) + (char) code + behind;
            Model model = new Model();
            for (int i = 0; i < other.length(); i++) {
                model.letters(other.charAt(i));
            }
            Due.write(x, other);
            Due.is(x.fault(), model.fault());
            Due.is(x.blank(), other.length());
        }
    }

    private static void noFault() {
        Due.says("4: how many letters it has, if there is none");
        Due.is(page("").fault(), 0);
        for (String text : new String[] {"ro2:gb.ygb.yg", "w:gb.ygb.yg", "to2:gb.ygb.yg/01234567"}) {
            for (int many = 0; many <= text.length(); many++) {
                Due.is(page(text.substring(0, many)).fault(), many);
            }
            Due.is(page(text + "0").fault(), text.length());
            Due.is(page(text + ".").fault(), text.length());
        }
        Due.says("4: it changes nothing");
        FrogsOnRing x = page("w:g.");
        Due.is(x.fault(), 4);
        Due.is(x.fault(), 4);
        Due.is(x.count(6), 4);
        Due.is(x.count(0), 0);
        Due.is(x.stones(), 2);
    }

    // ---- 5, 6

    // It stands as ".gyb" then, one leap of the yellow ahead of THE AIM; two MOVES are made, the IMAGE has one.
    private static FrogsOnRing wellUsed() {
        FrogsOnRing x = Due.aiming("w:gy.b", "yg.b");
        x.move(1, 2);
        x.image();
        x.move(0, 1);
        return x;
    }

    private static void aTextThatIsNone() {
        Due.says("5: STATE: it is none; that changes nothing");
        for (String text : new String[] {"", "w", "w:", "w:g", "yg.b", "w:g. ", "t:gb/", "t:gb/1", "r:gb.ygb.yg.", "x"}) {
            FrogsOnRing x = wellUsed();
            Due.write(x, text);
            long before = x.digest();
            Due.is(x.stones(), STATE);
            Due.is(x.digest(), before);
            Due.is(x.count(6), text.length());
            Due.is(x.count(7), 1);
            Due.is(x.fewest(), 1);
            Due.is(x.restore(), 1);
            Due.is(x.fewest(), 2);
            Due.is(x.back(), 0);
            Due.is(x.stone(1, 0), 3);
        }
    }

    private static void othersAreGone() {
        Due.says("5: others are gone, with THE AIM and all MOVES made; THE PAGE is empty then");
        for (String text : new String[] {"w:gy.b", "r:b.", "t:gyb..gb.y/00112233", "w:.gyb"}) {
            FrogsOnRing x = wellUsed();
            Due.write(x, text);
            int many = text.equals("r:b.") ? 2 : text.startsWith("t") ? 9 : 4;
            Due.is(x.stones(), many);
            Due.is(x.count(0), many);
            Due.is(x.stone(many, 0), UNKNOWN);
            Due.is(x.as(many - 1, 0), text.endsWith(".") ? NONE : many - 1);
            for (int stone = 0; stone < many; stone++) {
                Due.is(x.stone(stone, 2), NONE);
            }
            Due.is(x.fewest(), STATE);
            Due.is(x.ways(), STATE);
            Due.is(x.by(), STATE);
            Due.is(x.luck(0, 0), STATE);
            Due.is(x.alike(), STATE);
            Due.is(x.count(5), 0);
            Due.is(x.back(), STATE);
            Due.is(x.restore(), STATE);
            Due.is(x.count(6), 0);
            Due.is(x.stones(), STATE);
            Due.is(x.count(7), 2);
        }
        Due.says("5: the same letters in another form are other STONES");
        FrogsOnRing same = Due.stones("w:g..");
        for (int time = 0; time < 3; time++) {
            Due.is(same.reach(1), 1);
            Due.write(same, "r:g..");
            same.stones();
            Due.is(same.reach(1), 0);
            Due.write(same, "t:g../00");
            same.stones();
            Due.is(same.reach(1), 2);
            Due.write(same, "w:g..");
            same.stones();
        }
        Due.says("5: OTHER and TWO of others are gone, too");
        FrogsOnRing x = Due.stones("wo2:gbb.gg.");
        Due.is(x.can(0, 3), 1);
        Due.is(x.can(4, 6), 0);
        Due.write(x, "w:gbb.gg.");
        Due.is(x.stones(), 7);
        Due.is(x.can(0, 3), 0);
        Due.is(x.can(4, 6), 1);
    }

    private static void noAim() {
        Due.says("6: STATE: there are no STONES");
        FrogsOnRing x = page("g.");
        Due.is(x.aim(), STATE);
        Due.is(x.count(6), 2);
        Due.is(new FrogsOnRing().aim(), STATE);

        Due.says("6: STATE: it is none (as many letters as STONES, as many of each colour as there are)");
        String[] wrong = {"", "g", "gy.", "gy.b.", "gy.bb", "gyb", "gy..", "gyyb", "ggyb", "g..b", "gg.b", "yy.b", "gy.g",
            "bb.y", "gy.x", "gy b", "gy.B", "xgyb", "gxyb", "gybx", "w:gy", "w:gy.b", "gy.b/"};
        for (String text : wrong) {
            FrogsOnRing z = wellUsed();
            Due.write(z, text);
            long before = z.digest();
            Due.is(z.aim(), STATE);
            Due.is(z.digest(), before);
            Due.is(z.count(6), text.length());
            Due.is(z.stone(0, 2), 3);
            Due.is(z.back(), 1);
        }
    }

    private static void anAim() {
        Due.says("6: how many FROGS; THE PAGE is empty then; another AIM is gone");
        FrogsOnRing x = wellUsed();
        Due.write(x, ".byg");
        Due.is(x.aim(), 3);
        Due.is(x.count(6), 0);
        Due.is(x.stone(0, 2), NONE);
        Due.is(x.stone(1, 2), 2);
        Due.is(x.stone(2, 2), 3);
        Due.is(x.stone(3, 2), 1);
        Due.is(x.count(5), 2);
        Due.is(x.restore(), 1);
        Due.is(x.stone(1, 2), 2);
        Due.says("6: all STONES empty, or none");
        x = Due.stones("r:..");
        Due.write(x, "..");
        Due.is(x.aim(), 0);
        x = Due.stones("r:gbygbygby");
        Due.write(x, "yyybbbggg");
        Due.is(x.aim(), 9);
    }

    // ---- 7, 8

    private static void numbersThatNameNoStone() {
        Due.says("7, 8: UNKNOWN (without STONES, too), ahead of OUTSIDE");
        int[] others = {0, -1, 3, 4, 9, MIN, MAX};
        for (int many = 2; many <= 9; many++) {
            FrogsOnRing x = Due.stones("w:" + "gggggggggg".substring(0, many));
            for (int stone : new int[] {-1, many, many + 1, 10, 16, 32, MIN, MAX, -many}) {
                for (int other : others) {
                    Due.is(x.stone(stone, other), UNKNOWN);
                    Due.is(x.as(stone, other), UNKNOWN);
                }
            }
            Due.is(x.stone(0, 0), 1);
            Due.is(x.stone(many - 1, 0), 1);
            Due.is(x.as(0, 0), 0);
            Due.is(x.as(many - 1, 0), many - 1);
        }
        FrogsOnRing none = new FrogsOnRing();
        for (int stone : new int[] {-1, 0, 1, 8, 9, MIN, MAX}) {
            for (int other : others) {
                Due.is(none.stone(stone, other), UNKNOWN);
                Due.is(none.as(stone, other), UNKNOWN);
            }
        }
    }

    private static void whatAndKindOutside() {
        Due.says("7: OUTSIDE: what (0 to 2)");
        FrogsOnRing x = Due.stones("r:gby.");
        for (int stone = 0; stone < 4; stone++) {
            for (int what : new int[] {-1, 3, 4, 100, MIN, MAX}) {
                Due.is(x.stone(stone, what), OUTSIDE);
            }
        }
        Due.says("8: OUTSIDE: kind (0 to 3), of nobody too");
        for (int stone = 0; stone < 4; stone++) {
            for (int kind : new int[] {-1, 4, 5, 100, MIN, MAX}) {
                Due.is(x.as(stone, kind), OUTSIDE);
            }
        }
    }

    private static void nobodyIsNone() {
        Due.says("7: the KIND of the FROG there (NONE: nobody), as it stands now");
        FrogsOnRing x = Due.stones("w:g.");
        Due.is(x.stone(0, 0), 1);
        Due.is(x.stone(1, 0), NONE);
        x.move(0, 1);
        Due.is(x.stone(0, 0), NONE);
        Due.is(x.stone(1, 0), 1);
        Due.says("8: NONE: it is none such, or nobody; all are FROGS; a YELLOW is GREEN, too");
        x = Due.stones("t:.gby/000");
        int[][] due = {{NONE, NONE, NONE, NONE}, {1, 1, NONE, NONE}, {2, NONE, 2, NONE}, {3, 3, NONE, 3}};
        for (int stone = 0; stone < 4; stone++) {
            for (int kind = 0; kind < 4; kind++) {
                Due.is(x.as(stone, kind), due[stone][kind]);
            }
        }
    }

    private static void whatIsBack() {
        Due.says("7: its PARENT in a TREE, BACK of it else (NONE: there is none)");
        for (int many = 2; many <= 9; many++) {
            String letters = ".........".substring(0, many);
            FrogsOnRing ring = Due.stones("r:" + letters);
            FrogsOnRing row = Due.stones("w:" + letters);
            FrogsOnRing star = Due.stones("t:" + letters + "/" + "00000000".substring(0, many - 1));
            Due.is(ring.stone(0, 1), many - 1);
            Due.is(row.stone(0, 1), NONE);
            Due.is(star.stone(0, 1), NONE);
            for (int stone = 1; stone < many; stone++) {
                Due.is(ring.stone(stone, 1), stone - 1);
                Due.is(row.stone(stone, 1), stone - 1);
                Due.is(star.stone(stone, 1), 0);
            }
        }
    }

    private static void whoStandsInTheAim() {
        Due.says("7: the KIND of who stands there in THE AIM (NONE: nobody, or no AIM)");
        FrogsOnRing x = Due.stones("w:gb.y");
        for (int stone = 0; stone < 4; stone++) {
            Due.is(x.stone(stone, 2), NONE);
        }
        Due.write(x, "y.bg");
        x.aim();
        Due.is(x.stone(0, 2), 3);
        Due.is(x.stone(1, 2), NONE);
        Due.is(x.stone(2, 2), 2);
        Due.is(x.stone(3, 2), 1);
        Due.is(x.stone(0, 0), 1);
    }

    public static void main(String[] args) {
        theFirstLetterIsAForm();
        perhapsOtherPerhapsTwo();
        twoToNineLetters();
        oneOfFourLetters();
        theParentIsLess();
        aNewObjectHasNone();
        upToEightLetters();
        theLowestByteFirst();
        aByteAbove126();
        oneBehindAZero();
        above24();
        anEmptyPage();
        thePlaceOfTheFirstLetter();
        noFault();
        aTextThatIsNone();
        othersAreGone();
        noAim();
        anAim();
        numbersThatNameNoStone();
        whatAndKindOutside();
        nobodyIsNone();
        whatIsBack();
        whoStandsInTheAim();
        Due.end();
    }
}
