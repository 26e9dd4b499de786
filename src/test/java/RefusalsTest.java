import java.util.ArrayList;
import java.util.List;
import java.util.function.Supplier;
import java.util.function.ToLongFunction;

/**
 * "Refusals, of several the first as told by each call; they change nothing." Each call is made on one
 * of two twins; all that the twins can tell behind it, by calls that change them too, has to be the same.
 */
public final class RefusalsTest {
    private static final int UNKNOWN = FrogsOnRing.UNKNOWN;
    private static final int STATE = FrogsOnRing.STATE;
    private static final int FULL = FrogsOnRing.FULL;
    private static final int MIN = Integer.MIN_VALUE;
    private static final int MAX = Integer.MAX_VALUE;
    private static final int[] NUMBERS = {MIN, -1, 0, 1, 2, 3, 4, 6, 7, 8, 9, 10, 11, 63, 64, 99, 100, MAX};

    private record Call(String name, boolean tellsAlone, ToLongFunction<FrogsOnRing> made) {
    }

    private static List<Supplier<FrogsOnRing>> states() {
        List<Supplier<FrogsOnRing>> states = new ArrayList<>();
        states.add(FrogsOnRing::new);
        states.add(() -> written(new FrogsOnRing(), "w:g.x"));
        states.add(() -> written(new FrogsOnRing(), "to2:gby...gby/012345678!"));
        states.add(() -> Due.stones("w:.."));
        states.add(() -> Due.stones("r:gb"));
        states.add(() -> written(Due.aiming("r:..", ".."), "r:."));
        states.add(() -> used("w:gb.gb", "gb.bg"));
        states.add(() -> used("ro2:gy.b.", "yg.b."));
        states.add(() -> used("t2:gb.../0011", "..bg."));
        states.add(RefusalsTest::withSixtyMoves);
        return states;
    }

    private static FrogsOnRing written(FrogsOnRing x, String text) {
        Due.write(x, text);
        return x;
    }

    private static void makeFirstMove(FrogsOnRing x) {
        int move = x.nth(0);
        if (move >= 0) {
            x.move(move / 16, move % 16);
        }
    }

    // Two MOVES made, another one in the IMAGE, and letters on THE PAGE that are no STONES and no AIM.
    private static FrogsOnRing used(String stones, String aim) {
        FrogsOnRing x = Due.aiming(stones, aim);
        int last = x.nth(x.many() - 1);
        x.move(last / 16, last % 16);
        x.image();
        x.back();
        makeFirstMove(x);
        makeFirstMove(x);
        return written(x, "w:gb.g/0");
    }

    private static FrogsOnRing withSixtyMoves() {
        FrogsOnRing x = Due.aiming("r:g.y", "yg.");
        for (int made = 0; made < 60; made++) {
            makeFirstMove(x);
            if (made == 30) {
                x.image();
            }
        }
        return written(x, "r:gb.ygb.ygb.ygb.ygb.y.g");
    }

    // ---- the calls

    private static List<Call> calls() {
        List<Call> calls = new ArrayList<>();
        for (long w : new long[] {0x7fL, 0x80L, -1L, 0x6700L, 0x6700000000000000L, 0x2e2e2e2e2e2e2e2eL}) {
            calls.add(new Call("letters " + w, false, x -> x.letters(w)));
        }
        calls.add(new Call("fault", true, FrogsOnRing::fault));
        calls.add(new Call("stones", false, FrogsOnRing::stones));
        calls.add(new Call("aim", false, FrogsOnRing::aim));
        calls.add(new Call("back", false, FrogsOnRing::back));
        calls.add(new Call("many", true, FrogsOnRing::many));
        calls.add(new Call("fewest", true, FrogsOnRing::fewest));
        calls.add(new Call("ways", true, FrogsOnRing::ways));
        calls.add(new Call("by", true, FrogsOnRing::by));
        calls.add(new Call("longest", true, FrogsOnRing::longest));
        calls.add(new Call("alike", true, FrogsOnRing::alike));
        calls.add(new Call("kinds", true, FrogsOnRing::kinds));
        calls.add(new Call("image", false, FrogsOnRing::image));
        calls.add(new Call("restore", false, FrogsOnRing::restore));
        calls.add(new Call("digest", true, FrogsOnRing::digest));
        for (int one : NUMBERS) {
            calls.add(new Call("nth " + one, true, x -> x.nth(one)));
            calls.add(new Call("reach " + one, true, x -> x.reach(one)));
            calls.add(new Call("count " + one, true, x -> x.count(one)));
            for (int other : NUMBERS) {
                addOfTwo(calls, one, other);
            }
        }
        return calls;
    }

    private static void addOfTwo(List<Call> calls, int one, int other) {
        String of = " " + one + " " + other;
        calls.add(new Call("stone" + of, true, x -> x.stone(one, other)));
        calls.add(new Call("as" + of, true, x -> x.as(one, other)));
        calls.add(new Call("can" + of, true, x -> x.can(one, other)));
        calls.add(new Call("move" + of, false, x -> x.move(one, other)));
        calls.add(new Call("game" + of, true, x -> x.game(one, other)));
        calls.add(new Call("luck" + of, true, x -> x.luck(one, other)));
        calls.add(new Call("child" + of, true, x -> x.child(one, other, 5)));
        calls.add(new Call("child of 1" + of, true, x -> x.child(1, one, other)));
    }

    // ---- the twins

    private static boolean isRefusal(long answer) {
        return answer <= UNKNOWN && answer >= FULL;
    }

    private static void tellMovesTakenBack(FrogsOnRing x, StringBuilder told) {
        for (int made = x.back(); made >= 0; made = x.back()) {
            told.append(made).append(' ').append(x.digest()).append(' ');
        }
    }

    private static String portrait(FrogsOnRing x) {
        StringBuilder told = new StringBuilder();
        told.append(x.digest()).append(' ').append(x.fault()).append(' ').append(x.child(9, 9, 10)).append(' ');
        tellMovesTakenBack(x, told);
        told.append(x.restore()).append(' ').append(x.digest()).append(' ');
        tellMovesTakenBack(x, told);
        told.append(x.blank());
        return told.toString();
    }

    private static void lookAt(int number, Supplier<FrogsOnRing> state, List<Call> calls) {
        String due = portrait(state.get());
        for (Call call : calls) {
            FrogsOnRing twin = state.get();
            long answer = call.made().applyAsLong(twin);
            if (call.tellsAlone() || isRefusal(answer)) {
                boolean same = portrait(twin).equals(due);
                Due.is("state " + number + ": " + call.name() + " answered " + answer + "; nothing changed", same ? 1 : 0, 1);
            }
        }
    }

    // ---- without STONES

    private static void withoutStones() {
        Due.says("Without STONES: UNKNOWN, whatever the other number is");
        for (int one : NUMBERS) {
            FrogsOnRing x = new FrogsOnRing();
            for (int other : NUMBERS) {
                Due.is(x.stone(one, other), UNKNOWN);
                Due.is(x.as(one, other), UNKNOWN);
                Due.is(x.can(one, other), UNKNOWN);
                Due.is(x.move(one, other), UNKNOWN);
            }
        }
    }

    private static void withoutStonesElse(FrogsOnRing x) {
        Due.says("Without STONES: STATE, where it is told, ahead of OUTSIDE");
        for (int number : NUMBERS) {
            Due.is(x.nth(number), STATE);
            Due.is(x.reach(number), STATE);
            Due.is(x.game(number, 0), STATE);
            Due.is(x.game(0, number), STATE);
            Due.is(x.luck(number, 0), STATE);
            Due.is(x.luck(0, number), STATE);
            Due.is(x.child(number, 0, 0), STATE);
            Due.is(x.child(1, number, 0), STATE);
            Due.is(x.child(1, 0, number), STATE);
        }
        Due.is(x.aim(), STATE);
        Due.is(x.back(), STATE);
        Due.is(x.many(), STATE);
        Due.is(x.fewest(), STATE);
        Due.is(x.ways(), STATE);
        Due.is(x.by(), STATE);
        Due.is(x.longest(), STATE);
        Due.is(x.alike(), STATE);
        Due.is(x.kinds(), STATE);
        Due.is(x.image(), STATE);
        Due.is(x.restore(), STATE);
    }

    public static void main(String[] args) {
        withoutStones();
        withoutStonesElse(new FrogsOnRing());
        withoutStonesElse(written(new FrogsOnRing(), "w:g."));
        List<Supplier<FrogsOnRing>> states = states();
        List<Call> calls = calls();
        for (int number = 0; number < states.size(); number++) {
            lookAt(number, states.get(number), calls);
        }
        Due.end();
    }
}
