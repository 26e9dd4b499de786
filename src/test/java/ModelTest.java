import java.util.Random;

/** Runs of drawn calls: the class answers as the model does. The draws are the same each time. */
public final class ModelTest {
    private static final int[] EDGES = {Integer.MIN_VALUE, -2, -1, 7, 8, 9, 10, 11, 16, 59, 60, 61, 62, 63, 64, 65,
        98, 99, 100, 65535, 65536, Integer.MAX_VALUE};

    private final Random random;
    private final int mostStones;
    private final FrogsOnRing real = new FrogsOnRing();
    private final Model model = new Model();
    private final String name;
    private String order = "";

    private ModelTest(int seed, int mostStones) {
        this.random = new Random(seed);
        this.mostStones = mostStones;
        this.name = "run " + seed + ": ";
    }

    private int number(int bound) {
        return random.nextInt(8) == 0 ? EDGES[random.nextInt(EDGES.length)] : random.nextInt(bound);
    }

    private String row(int stones) {
        String from = new String[] {".gby", "..ggbby", ".gb", "ggbb.y", ".", "gb..."}[random.nextInt(6)];
        StringBuilder text = new StringBuilder();
        for (int i = 0; i < stones; i++) {
            text.append(from.charAt(random.nextInt(from.length())));
        }
        return text.toString();
    }

    private String stonesText() {
        int stones = 2 + random.nextInt(mostStones - 1);
        char form = "rwt".charAt(random.nextInt(3));
        order = row(stones);
        StringBuilder text = new StringBuilder().append(form);
        text.append(random.nextBoolean() ? "o" : "").append(random.nextBoolean() ? "2" : "").append(':').append(order);
        if (form == 't') {
            text.append('/');
            for (int stone = 1; stone < stones; stone++) {
                text.append(random.nextBoolean() ? stone - 1 : random.nextInt(stone));
            }
        }
        return text.toString();
    }

    private String damaged(String text) {
        StringBuilder changed = new StringBuilder(text);
        int place = random.nextInt(text.length() + 1);
        switch (random.nextInt(4)) {
            case 0:
                changed.insert(place, "rwto2:.gby/0123456789x".charAt(random.nextInt(22)));
                break;
            case 1:
                changed.setLength(place);
                break;
            case 2:
                changed.deleteCharAt(Math.min(place, text.length() - 1));
                break;
            default:
                changed.setCharAt(Math.min(place, text.length() - 1), "o2:.gb/0458".charAt(random.nextInt(11)));
        }
        return changed.toString();
    }

    private String shuffled(String text) {
        StringBuilder left = new StringBuilder(text);
        StringBuilder mixed = new StringBuilder();
        while (left.length() > 0) {
            int place = random.nextInt(left.length());
            mixed.append(left.charAt(place));
            left.deleteCharAt(place);
        }
        return mixed.toString();
    }

    private void write(String text) {
        for (int first = 0; first < text.length(); first += 8) {
            letters(Due.word(text.substring(first, Math.min(text.length(), first + 8))));
        }
    }

    private void letters(long w) {
        Due.is(name + "letters(" + w + ")", real.letters(w), model.letters(w));
    }

    private void readStones() {
        if (random.nextInt(4) != 0) {
            Due.is(name + "blank()", real.blank(), model.blank());
        }
        String text = stonesText();
        write(random.nextInt(5) == 0 ? damaged(text) : text);
        Due.is(name + text + " fault()", real.fault(), model.fault());
        Due.is(name + text + " stones()", real.stones(), model.stones());
    }

    // Where some drawn moves lead to, so that the aim can often be come to.
    private String ahead() {
        StringBuilder text = new StringBuilder();
        int times = 1 + random.nextInt(6);
        int seed = random.nextInt(Integer.MAX_VALUE);
        for (int stone = 0; stone < model.count(0); stone++) {
            int kind = model.child(times, seed, stone);
            text.append(kind < 0 ? '.' : ".gby".charAt(kind));
        }
        return text.toString();
    }

    private String nowText() {
        StringBuilder text = new StringBuilder();
        for (int stone = 0; stone < model.count(0); stone++) {
            text.append(".gby".charAt(Math.max(0, model.stone(stone, 0))));
        }
        return text.toString();
    }

    private void readAim() {
        if (random.nextInt(4) != 0) {
            Due.is(name + "blank()", real.blank(), model.blank());
        }
        String text = shuffled(order);
        if (model.count(0) > 0 && random.nextInt(3) != 0) {
            text = ahead();
        } else if (model.count(0) > 0 && random.nextBoolean()) {
            int k = random.nextInt(model.count(0));
            text = nowText().substring(k) + nowText().substring(0, k);
        }
        write(text.length() > 0 && random.nextInt(8) == 0 ? damaged(text) : text);
        Due.is(name + text + " aim()", real.aim(), model.aim());
    }

    private void makeMove() {
        int moves = model.many();
        if (moves > 0 && random.nextInt(4) != 0) {
            int move = model.nth(random.nextInt(moves));
            Due.is(name + "move " + move, real.move(move / 16, move % 16), model.move(move / 16, move % 16));
        } else {
            int from = number(mostStones);
            int to = number(mostStones);
            Due.is(name + "move(" + from + ", " + to + ")", real.move(from, to), model.move(from, to));
        }
    }

    private void goBack() {
        switch (random.nextInt(4)) {
            case 0:
                Due.is(name + "image()", real.image(), model.image());
                break;
            case 1:
                Due.is(name + "restore()", real.restore(), model.restore());
                break;
            default:
                Due.is(name + "back()", real.back(), model.back());
        }
    }

    private void askOne() {
        int a = number(10);
        int b = number(4);
        int c = number(11);
        switch (random.nextInt(24)) {
            case 0: Due.is(name + "stone", real.stone(a, b), model.stone(a, b)); break;
            case 1: Due.is(name + "as", real.as(a, b), model.as(a, b)); break;
            case 2: Due.is(name + "can", real.can(a, c), model.can(a, c)); break;
            case 3: Due.is(name + "back", real.back(), model.back()); break;
            case 4: Due.is(name + "many", real.many(), model.many()); break;
            case 5: Due.is(name + "nth " + c, real.nth(c), model.nth(c)); break;
            case 6: Due.is(name + "fewest", real.fewest(), model.fewest()); break;
            case 7: Due.is(name + "ways", real.ways(), model.ways()); break;
            case 8: Due.is(name + "by", real.by(), model.by()); break;
            case 9: Due.is(name + "reach " + b, real.reach(b), model.reach(b)); break;
            case 10: Due.is(name + "longest", real.longest(), model.longest()); break;
            case 11: askGame(); break;
            case 12: askLuck(); break;
            case 13: askChild(); break;
            case 14: Due.is(name + "alike", real.alike(), model.alike()); break;
            case 15: Due.is(name + "kinds", real.kinds(), model.kinds()); break;
            case 16: Due.is(name + "image", real.image(), model.image()); break;
            case 17: Due.is(name + "restore", real.restore(), model.restore()); break;
            case 18: Due.is(name + "count " + a, real.count(a), model.count(a)); break;
            case 19: letters(random.nextLong() >>> random.nextInt(64)); break;
            case 20: Due.is(name + "fault", real.fault(), model.fault()); break;
            case 21: letters(0x6767676767676767L >>> (8 * random.nextInt(8))); break;
            case 22: Due.is(name + "blank", real.blank(), model.blank()); break;
            default: Due.is(name + "digest", real.digest(), model.digest());
        }
    }

    private void askGame() {
        int who = number(2);
        int what = number(2);
        Due.is(name + "game(" + who + ", " + what + ")", real.game(who, what), model.game(who, what));
    }

    private void askLuck() {
        int times = number(7);
        int part = number(2);
        Due.is(name + "luck(" + times + ", " + part + ")", real.luck(times, part), model.luck(times, part));
    }

    private void askChild() {
        int times = random.nextInt(3) == 0 ? number(12) : 1 + random.nextInt(99);
        int seed = random.nextInt(6) == 0 ? number(4) : random.nextInt(Integer.MAX_VALUE);
        int what = number(11);
        Due.is(name + "child(" + times + ", " + seed + ", " + what + ")",
            real.child(times, seed, what), model.child(times, seed, what));
    }

    private void go(int rounds) {
        for (int i = 0; i < rounds; i++) {
            int draw = random.nextInt(40);
            if (draw == 0 || (i == 6 && mostStones > 2)) {
                readStones();
            } else if (draw < 4) {
                readAim();
            } else if (draw < 12) {
                makeMove();
            } else if (draw < 15) {
                goBack();
            } else {
                askOne();
            }
            if (i % 50 == 49) {
                Due.is(name + "digest", real.digest(), model.digest());
            }
        }
    }

    public static void main(String[] args) {
        for (int seed = 0; seed < 300; seed++) {
            new ModelTest(seed, 2 + seed % 6).go(300);
        }
        for (int seed = 1000; seed < 1012; seed++) {
            new ModelTest(seed, 9).go(80);
        }
        Due.end();
    }
}
