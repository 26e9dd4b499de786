import java.util.ArrayDeque;
import java.util.ArrayList;
import java.util.HashMap;
import java.util.HashSet;
import java.util.List;
import java.util.Map;
import java.util.Set;
import java.util.TreeSet;
import java.util.regex.Matcher;
import java.util.regex.Pattern;

/**
 * The document a second time, as plainly as can be and in another way than the class: orders are
 * texts, STONES a pattern, MOVES are walked forward, LUCK tries every row of frogs.
 */
final class Model {
    private static final int NONE = -1, UNKNOWN = -101, OUTSIDE = -102, STATE = -103, FULL = -104;
    private static final Pattern STONES = Pattern.compile(pattern());

    private String page = "";
    private char form = '-';
    private boolean other;
    private boolean two;
    private String order = "";
    private int[] parents = new int[0];
    private String aim = null;
    private List<int[]> made = new ArrayList<>();
    private String keptOrder = null;
    private List<int[]> keptMade = null;
    private int reads = 0;

    private static String pattern() {
        StringBuilder text = new StringBuilder("([rw])(o?)(2?):([.gby]{2,9})");
        for (int n = 2; n <= 9; n++) {
            text.append("|(t)(o?)(2?):([.gby]{").append(n).append("})/");
            text.append("(");
            for (int stone = 1; stone < n; stone++) {
                text.append("[0-").append(stone - 1).append("]");
            }
            text.append(")");
        }
        return text.toString();
    }

    int letters(long w) {
        String fresh = "";
        boolean ended = false;
        for (int i = 0; i < 8; i++) {
            int code = (int) ((w >> (8 * i)) & 0xff);
            if (code > 126 || (ended && code > 0)) {
                return OUTSIDE;
            }
            ended |= code == 0;
            fresh += ended ? "" : (char) code;
        }
        if ((page + fresh).length() > 24) {
            return FULL;
        }
        page += fresh;
        return page.length();
    }

    int blank() {
        int had = page.length();
        page = "";
        return had;
    }

    int fault() {
        for (int length = 1; length <= page.length(); length++) {
            Matcher matcher = STONES.matcher(page.substring(0, length));
            if (!matcher.matches() && !matcher.hitEnd()) {
                return length - 1;
            }
        }
        return page.length();
    }

    int stones() {
        Matcher matcher = STONES.matcher(page);
        if (!matcher.matches()) {
            return STATE;
        }
        List<String> groups = new ArrayList<>();
        for (int i = 1; i <= matcher.groupCount(); i++) {
            if (matcher.group(i) != null) {
                groups.add(matcher.group(i));
            }
        }
        form = groups.get(0).charAt(0);
        other = !groups.get(1).isEmpty();
        two = !groups.get(2).isEmpty();
        order = groups.get(3);
        parents = new int[order.length()];
        for (int stone = 0; stone < order.length(); stone++) {
            if (form == 't') {
                parents[stone] = stone == 0 ? NONE : groups.get(4).charAt(stone - 1) - '0';
            } else {
                parents[stone] = form == 'r' ? (stone + order.length() - 1) % order.length() : stone - 1;
            }
        }
        aim = null;
        made = new ArrayList<>();
        keptOrder = null;
        reads++;
        page = "";
        return order.length();
    }

    int aim() {
        if (order.isEmpty() || !sorted(page).equals(sorted(order))) {
            return STATE;
        }
        aim = page;
        page = "";
        return (int) aim.chars().filter(c -> c != '.').count();
    }

    private static String sorted(String text) {
        char[] letters = text.toCharArray();
        java.util.Arrays.sort(letters);
        return new String(letters);
    }

    int stone(int stone, int what) {
        if (stone < 0 || stone >= order.length()) {
            return UNKNOWN;
        }
        if (what < 0 || what > 2) {
            return OUTSIDE;
        }
        if (what == 0) {
            return kind(order, stone);
        }
        return what == 1 ? parents[stone] : aim == null ? NONE : kind(aim, stone);
    }

    private static int kind(String where, int stone) {
        int kind = stone < where.length() ? ".gby".indexOf(where.charAt(stone)) : 0;
        return kind == 0 ? NONE : kind;
    }

    int as(int stone, int kind) {
        if (stone < 0 || stone >= order.length()) {
            return UNKNOWN;
        }
        if (kind < 0 || kind > 3) {
            return OUTSIDE;
        }
        String such = new String[] {"gby", "gy", "b", "y"}[kind];
        return such.indexOf(order.charAt(stone)) >= 0 ? stone : NONE;
    }

    private List<Integer> next(int stone, boolean on) {
        List<Integer> found = new ArrayList<>();
        int n = order.length();
        if (form == 't') {
            for (int i = 0; i < n; i++) {
                if (on ? parents[i] == stone : parents[stone] == i) {
                    found.add(i);
                }
            }
        } else if (form == 'r') {
            found.add((stone + (on ? 1 : n - 1)) % n);
        } else if (on ? stone < n - 1 : stone > 0) {
            found.add(stone + (on ? 1 : -1));
        }
        return found;
    }

    private void leap(String where, int from, int at, boolean on, int over, Set<Integer> targets) {
        for (int to : next(at, on)) {
            if (where.charAt(to) == '.') {
                targets.add(to);
            } else if (to != from && over < (two ? 2 : 1)
                && !(other && where.charAt(to) == where.charAt(from))) {
                leap(where, from, to, on, over + 1, targets);
            }
        }
    }

    private Set<Integer> targets(String where, int from) {
        Set<Integer> targets = new TreeSet<>();
        char frog = where.charAt(from);
        if (frog == 'g' || frog == 'y') {
            leap(where, from, from, true, 0, targets);
        }
        if (frog == 'b' || frog == 'y') {
            leap(where, from, from, false, 0, targets);
        }
        return targets;
    }

    private List<int[]> moves(String where) {
        List<int[]> found = new ArrayList<>();
        for (int from = 0; from < where.length(); from++) {
            for (int to : targets(where, from)) {
                found.add(new int[] {from, to});
            }
        }
        return found;
    }

    private static String moved(String where, int from, int to) {
        StringBuilder text = new StringBuilder(where);
        text.setCharAt(to, where.charAt(from));
        text.setCharAt(from, '.');
        return text.toString();
    }

    int can(int from, int to) {
        if (from < 0 || from >= order.length() || to < 0 || to >= order.length()) {
            return UNKNOWN;
        }
        return targets(order, from).contains(to) ? 1 : 0;
    }

    int move(int from, int to) {
        int can = can(from, to);
        if (can != 1) {
            return can == 0 ? STATE : can;
        }
        if (made.size() == 60) {
            return FULL;
        }
        order = moved(order, from, to);
        made.add(new int[] {from, to});
        return made.size();
    }

    int back() {
        if (made.isEmpty()) {
            return STATE;
        }
        int[] last = made.remove(made.size() - 1);
        order = moved(order, last[1], last[0]);
        return made.size();
    }

    int many() {
        return order.isEmpty() ? STATE : moves(order).size();
    }

    int nth(int i) {
        if (order.isEmpty()) {
            return STATE;
        }
        if (i < 0 || i > 63) {
            return OUTSIDE;
        }
        List<int[]> moves = moves(order);
        return i < moves.size() ? 16 * moves.get(i)[0] + moves.get(i)[1] : NONE;
    }

    private Map<String, Integer> steps(String start) {
        Map<String, Integer> steps = new HashMap<>();
        ArrayDeque<String> open = new ArrayDeque<>();
        steps.put(start, 0);
        open.add(start);
        while (!open.isEmpty()) {
            String where = open.remove();
            for (int[] move : moves(where)) {
                String there = moved(where, move[0], move[1]);
                if (steps.putIfAbsent(there, steps.get(where) + 1) == null) {
                    open.add(there);
                }
            }
        }
        return steps;
    }

    int fewest() {
        return aim == null ? STATE : steps(order).getOrDefault(aim, NONE);
    }

    long ways() {
        if (aim == null) {
            return STATE;
        }
        Map<String, Integer> steps = steps(order);
        return steps.containsKey(aim) ? waysOn(order, 0, steps, new HashMap<>()) : 0;
    }

    private long waysOn(String where, int step, Map<String, Integer> steps, Map<String, Long> known) {
        if (step == steps.get(aim)) {
            return where.equals(aim) ? 1 : 0;
        }
        Long before = known.get(where);
        if (before != null) {
            return before;
        }
        long sum = 0;
        for (int[] move : moves(where)) {
            String there = moved(where, move[0], move[1]);
            if (steps.get(there) == step + 1) {
                sum += waysOn(there, step + 1, steps, known);
            }
        }
        known.put(where, sum);
        return sum;
    }

    int by() {
        if (aim == null) {
            return STATE;
        }
        Integer fewest = steps(order).get(aim);
        if (fewest == null || fewest == 0) {
            return NONE;
        }
        for (int[] move : moves(order)) {
            Integer rest = steps(moved(order, move[0], move[1])).get(aim);
            if (rest != null && rest == fewest - 1) {
                return 16 * move[0] + move[1];
            }
        }
        throw new IllegalStateException("no first move");
    }

    int reach(int what) {
        if (order.isEmpty()) {
            return STATE;
        }
        Map<String, Integer> steps = steps(order);
        switch (what) {
            case 0:
                return steps.size();
            case 1:
                return (int) steps.keySet().stream().filter(where -> moves(where).isEmpty()).count();
            case 2:
                return steps.values().stream().max(Integer::compare).get();
            default:
                return OUTSIDE;
        }
    }

    private boolean ending() {
        return !order.isEmpty() && form != 'r' && order.indexOf('y') < 0;
    }

    int longest() {
        return ending() ? longest(order, new HashMap<>()) : STATE;
    }

    private int longest(String where, Map<String, Integer> known) {
        Integer before = known.get(where);
        if (before != null) {
            return before;
        }
        int most = 0;
        for (int[] move : moves(where)) {
            most = Math.max(most, 1 + longest(moved(where, move[0], move[1]), known));
        }
        known.put(where, most);
        return most;
    }

    int game(int who, int what) {
        if (!ending()) {
            return STATE;
        }
        if ((who != 0 && who != 1) || (what != 0 && what != 1)) {
            return OUTSIDE;
        }
        int move = winning(order, who, new HashMap<>());
        return what == 1 ? move : move == NONE ? 0 : 1;
    }

    private int winning(String where, int who, Map<String, Integer> known) {
        Integer before = known.get(where + who);
        if (before != null) {
            return before;
        }
        int found = NONE;
        for (int[] move : moves(where)) {
            if (found == NONE && where.charAt(move[0]) == "gb".charAt(who)
                && winning(moved(where, move[0], move[1]), 1 - who, known) == NONE) {
                found = 16 * move[0] + move[1];
            }
        }
        known.put(where + who, found);
        return found;
    }

    private static List<Integer> frogs(String where) {
        List<Integer> found = new ArrayList<>();
        for (int stone = 0; stone < where.length(); stone++) {
            if (where.charAt(stone) != '.') {
                found.add(stone);
            }
        }
        return found;
    }

    private String let(String where, int from) {
        for (int to : targets(where, from)) {
            return moved(where, from, to);
        }
        return where;
    }

    int luck(int times, int part) {
        if (aim == null || frogs(order).isEmpty()) {
            return STATE;
        }
        if (times < 0 || times > 6 || (part != 0 && part != 1)) {
            return OUTSIDE;
        }
        int above = hits(order, times, new HashMap<>());
        int below = (int) Math.round(Math.pow(frogs(order).size(), times));
        for (int d = below; d > 1; d--) {
            if (above % d == 0 && below % d == 0) {
                above /= d;
                below /= d;
            }
        }
        return part == 0 ? above : below;
    }

    private int hits(String where, int times, Map<String, Integer> known) {
        if (times == 0) {
            return where.equals(aim) ? 1 : 0;
        }
        Integer before = known.get(where + times);
        if (before != null) {
            return before;
        }
        int sum = 0;
        for (int from : frogs(where)) {
            sum += hits(let(where, from), times - 1, known);
        }
        known.put(where + times, sum);
        return sum;
    }

    int child(int times, int seed, int what) {
        if (order.isEmpty() || frogs(order).isEmpty()) {
            return STATE;
        }
        if (times < 1 || times > 99 || seed < 0 || what < 0 || what > 10) {
            return OUTSIDE;
        }
        java.math.BigInteger last = java.math.BigInteger.valueOf(seed);
        String where = order;
        int moves = 0;
        for (int time = 0; time < times; time++) {
            last = last.multiply(java.math.BigInteger.valueOf(1103515245)).add(java.math.BigInteger.valueOf(12345))
                .mod(java.math.BigInteger.TWO.pow(31));
            List<Integer> frogs = frogs(where);
            int from = frogs.get((last.intValueExact() >> 16) % frogs.size());
            moves += targets(where, from).isEmpty() ? 0 : 1;
            where = let(where, from);
        }
        return what == 9 ? moves : what == 10 ? last.intValueExact() : kind(where, what);
    }

    private static String turned(String where, int k) {
        int cut = where.length() - k;
        return where.substring(cut) + where.substring(0, cut);
    }

    int alike() {
        if (aim == null || form != 'r') {
            return STATE;
        }
        for (int k = 0; k < order.length(); k++) {
            if (turned(order, k).equals(aim)) {
                return k;
            }
        }
        return NONE;
    }

    int kinds() {
        if (form != 'r') {
            return STATE;
        }
        Set<String> leasts = new HashSet<>();
        for (String where : steps(order).keySet()) {
            String least = where;
            for (int k = 1; k < where.length(); k++) {
                least = turned(where, k).compareTo(least) < 0 ? turned(where, k) : least;
            }
            leasts.add(least);
        }
        return leasts.size();
    }

    int image() {
        if (order.isEmpty()) {
            return STATE;
        }
        keptOrder = order;
        keptMade = new ArrayList<>(made);
        return made.size();
    }

    int restore() {
        if (keptOrder == null) {
            return STATE;
        }
        order = keptOrder;
        made = new ArrayList<>(keptMade);
        return made.size();
    }

    int count(int what) {
        switch (what) {
            case 0:
                return order.length();
            case 1:
                return frogs(order).size();
            case 2:
            case 3:
            case 4:
                return (int) order.chars().filter(c -> c == "gby".charAt(what - 2)).count();
            case 5:
                return made.size();
            case 6:
                return page.length();
            case 7:
                return reads;
            default:
                return OUTSIDE;
        }
    }

    long digest() {
        List<Long> told = new ArrayList<>();
        for (int stone = 0; stone < order.length(); stone++) {
            told.add((long) stone(stone, 0));
            told.add((long) stone(stone, 1));
            told.add((long) stone(stone, 2));
        }
        if (!order.isEmpty()) {
            moves(order).forEach(move -> told.add(16L * move[0] + move[1]));
            told.add((long) reach(0));
            told.add((long) reach(1));
            told.add((long) reach(2));
        }
        if (aim != null) {
            told.add((long) fewest());
            told.add(ways());
            told.add((long) by());
        }
        page.chars().forEach(letter -> told.add((long) letter));
        for (int what = 0; what < 8; what++) {
            told.add((long) count(what));
        }
        return told.stream().reduce(563L, (h, number) -> 31 * h + number);
    }
}
