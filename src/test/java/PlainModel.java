import java.math.BigInteger;
import java.util.ArrayList;
import java.util.Arrays;
import java.util.HashMap;
import java.util.List;
import java.util.Map;
import java.util.PriorityQueue;
import java.util.TreeMap;
import java.util.regex.Matcher;
import java.util.regex.Pattern;

/** The document a second time, by other ways than the class takes: tries all, with the Java library. */
final class PlainModel {
    private static final int NONE = -6, UNKNOWN = -1, OUTSIDE = -2, STATE = -3, FULL = -4, NO = -5;
    private static final Pattern DAYS = Pattern.compile("([A-F][0-5]|[A-F]_|[A-F]\\+[A-F]|~|\\.)*");
    private static final Pattern BEGUN = Pattern.compile(DAYS.pattern() + "([A-F]\\+?)?");
    private static final Pattern ACT = Pattern.compile("[A-F]\\+[A-F]|[A-F].|~|\\.");

    /** GRIEF to STRENGTH and MARKS; a HOLD's row as hold() takes it. */
    private static final class World {
        final TreeMap<Integer, int[]> griefs = new TreeMap<>();
        final int[][] holds = new int[6][];
        final int[][] coats = new int[8][];
        final boolean[][] moves = new boolean[10][10];
        final List<int[]> sights = new ArrayList<>();
        int breath = 50;
        int hour = 0;

        World copy() {
            World other = new World();
            griefs.forEach((grief, row) -> other.griefs.put(grief, row.clone()));
            for (int i = 0; i < 6; i++) {
                other.holds[i] = holds[i].clone();
            }
            for (int i = 0; i < 8; i++) {
                other.coats[i] = coats[i].clone();
            }
            for (int i = 0; i < 10; i++) {
                other.moves[i] = moves[i].clone();
            }
            other.sights.addAll(sights);
            other.breath = breath;
            other.hour = hour;
            return other;
        }
    }

    private World world = new World();
    private String pad = "";
    private final World[] images = new World[2];

    PlainModel() {
        for (int i = 0; i < 6; i++) {
            world.holds[i] = new int[] {0, 5, 2};
        }
        for (int i = 0; i < 8; i++) {
            world.coats[i] = new int[] {0, 0};
        }
    }

    private static boolean no(int v, int low, int high) {
        return v < low || v > high;
    }

    int grief(int grief, int strength, int shape) {
        if (no(grief, 0, 5)) return UNKNOWN;
        if (no(strength, 1, 99) || no(shape, 0, 255)) return OUTSIDE;
        world.griefs.put(grief, new int[] {strength, shape});
        return world.griefs.size();
    }

    int hold(int hold, int grips, int force, int takes) {
        if (no(hold, 0, 5)) return UNKNOWN;
        if (no(grips, 0, 255) || no(force, 1, 20) || no(takes, 1, 9)) return OUTSIDE;
        int before = holdTold(hold);
        world.holds[hold] = new int[] {grips, force, takes};
        return before;
    }

    private int holdTold(int hold) {
        int[] row = world.holds[hold];
        return 1000 * row[0] + 10 * row[1] + row[2];
    }

    int breath(int v) {
        if (no(v, 0, 99)) return OUTSIDE;
        int before = world.breath;
        world.breath = v;
        return before;
    }

    int coat(int coat, int a, int b) {
        if (no(coat, 0, 7)) return UNKNOWN;
        if (no(a, 0, 23) || no(b, 0, 23) || b < a) return OUTSIDE;
        int before = world.coats[coat][0] * 100 + world.coats[coat][1];
        world.coats[coat] = new int[] {a, b};
        return before;
    }

    int move(int from, int to, boolean is) {
        if (no(from, 0, 9) || no(to, 0, 9) || from == to) return UNKNOWN;
        world.moves[from][to] = is;
        int count = 0;
        for (boolean[] row : world.moves) for (boolean one : row) count += one ? 1 : 0;
        return count;
    }

    int say(int sign) {
        if (no(sign, 33, 126)) return OUTSIDE;
        if (pad.length() == 60) return FULL;
        pad += (char) sign;
        return pad.length();
    }

    int wipe() {
        int before = pad.length();
        pad = "";
        return before;
    }

    int fault() {
        for (int end = 1; end <= pad.length(); end++) {
            if (!BEGUN.matcher(pad.substring(0, end)).matches()) return end - 1;
        }
        return DAYS.matcher(pad).matches() ? NONE : pad.length();
    }

    /** What a run of days finds. */
    private static final class Run {
        World world;
        int acts, why, down, firstAct = NONE, first = NONE;
    }

    private Run run() {
        Run run = new Run();
        run.world = world.copy();
        Matcher matcher = ACT.matcher(pad);
        while (matcher.find()) {
            String act = matcher.group();
            int before = run.world.griefs.size();
            run.why = act(run.world, act);
            if (run.why != 0) return run;
            if (act.length() == 2 && run.world.griefs.size() < before) {
                if (run.down++ == 0) {
                    run.firstAct = run.acts;
                    run.first = act.charAt(0) - 'A';
                }
            }
            run.acts++;
        }
        return run;
    }

    private static int act(World w, String act) {
        char sign = act.charAt(0);
        if (sign == '~') {
            if (w.breath == 99) return 5;
            w.breath = Math.min(99, w.breath + 20);
            return 0;
        }
        if (sign == '.') {
            if (w.hour == 99) return 6;
            w.hour++;
            w.breath = Math.min(99, w.breath + 5);
            for (int[] row : w.griefs.values()) row[0] = Math.min(99, row[0] + 3);
            return 0;
        }
        int[] grief = w.griefs.get(sign - 'A');
        char deed = act.charAt(1);
        if (deed == '+') {
            int[] other = w.griefs.get(act.charAt(2) - 'A');
            if (grief == null || other == null) return 1;
            if (grief == other) return 4;
            grief[0] = Math.min(99, grief[0] + other[0]);
            grief[1] |= other[1];
            w.griefs.remove(act.charAt(2) - 'A');
            return 0;
        }
        if (grief == null) return 1;
        if (deed == '_') {
            if (w.breath < 10) return 3;
            w.breath -= 10;
            grief[0] = grief[0] == 1 ? 1 : grief[0] / 2;
            return 0;
        }
        int[] hold = w.holds[deed - '0'];
        if (!fits(hold, grief[1])) return 2;
        if (w.breath < hold[2]) return 3;
        w.breath -= hold[2];
        grief[0] -= hold[1];
        if (grief[0] <= 0) w.griefs.remove(sign - 'A');
        return 0;
    }

    private static boolean fits(int[] hold, int shape) {
        for (int mark = 0; mark < 8; mark++) {
            if ((hold[0] >> mark) % 2 == 1 && (shape >> mark) % 2 == 0) return false;
        }
        return true;
    }

    int judge(int what) {
        if (no(what, 0, 1)) return OUTSIDE;
        if (fault() != NONE) return NO;
        Run run = run();
        return run.why == 0 ? NONE : what == 0 ? run.acts : run.why;
    }

    private boolean can() {
        return fault() == NONE && run().why == 0;
    }

    int done() {
        if (!can()) return NO;
        Run run = run();
        world = run.world;
        pad = "";
        return run.acts;
    }

    int behind(int grief, int what) {
        if (!world.griefs.containsKey(grief)) return UNKNOWN;
        if (no(what, 0, 1)) return OUTSIDE;
        if (!can()) return NO;
        int[] row = run().world.griefs.get(grief);
        return row == null ? NONE : row[what];
    }

    private static int bits(Iterable<Integer> set) {
        int bits = 0;
        for (int one : set) bits += 1 << one;
        return bits;
    }

    int then(int what) {
        if (no(what, 0, 5)) return OUTSIDE;
        if (!can()) return NO;
        Run run = run();
        return new int[] {bits(run.world.griefs.keySet()), run.world.breath, run.world.hour, run.down,
            run.firstAct, run.first}[what];
    }

    private List<Integer> fittingHolds(int grief) {
        List<Integer> set = new ArrayList<>();
        for (int i = 0; i < 6; i++) if (fits(world.holds[i], world.griefs.get(grief)[1])) set.add(i);
        return set;
    }

    int fitting(int grief) {
        return world.griefs.containsKey(grief) ? bits(fittingHolds(grief)) : UNKNOWN;
    }

    /** The shortest way down: by breath, then by holds. */
    private int[] shortest(int grief) {
        List<Integer> holds = fittingHolds(grief);
        PriorityQueue<int[]> queue = new PriorityQueue<>((p, q) -> p[0] != q[0] ? p[0] - q[0] : p[1] - q[1]);
        boolean[] seen = new boolean[100];
        queue.add(new int[] {0, 0, world.griefs.get(grief)[0]});
        while (!queue.isEmpty()) {
            int[] at = queue.remove();
            if (at[2] == 0) return at;
            if (seen[at[2]]) continue;
            seen[at[2]] = true;
            for (int i : holds) {
                int[] hold = world.holds[i];
                queue.add(new int[] {at[0] + hold[2], at[1] + 1, Math.max(0, at[2] - hold[1])});
            }
        }
        return null;
    }

    int least(int grief, int what) {
        if (!world.griefs.containsKey(grief)) return UNKNOWN;
        if (no(what, 0, 1)) return OUTSIDE;
        int[] way = shortest(grief);
        return way == null ? NONE : way[what];
    }

    private int bestTotal, bestFirst;

    int order(int what) {
        if (no(what, 0, 1)) return OUTSIDE;
        List<int[]> all = new ArrayList<>();
        for (int grief : world.griefs.keySet()) {
            int[] way = shortest(grief);
            if (way != null) all.add(new int[] {grief, world.griefs.get(grief)[0], way[1]});
        }
        bestTotal = all.isEmpty() ? 0 : Integer.MAX_VALUE;
        bestFirst = NONE;
        tryOrders(all, new ArrayList<>());
        return what == 0 ? bestTotal : bestFirst;
    }

    private void tryOrders(List<int[]> rest, List<int[]> row) {
        if (rest.isEmpty() && !row.isEmpty()) {
            int time = 0;
            int total = 0;
            for (int[] one : row) {
                time += one[2];
                total += one[1] * time;
            }
            // Rows come by rising first GRIEF, so the least first one stays.
            if (total < bestTotal) {
                bestTotal = total;
                bestFirst = row.get(0)[0];
            }
        }
        for (int[] one : rest) {
            List<int[]> fewer = new ArrayList<>(rest);
            fewer.remove(one);
            row.add(one);
            tryOrders(fewer, row);
            row.remove(row.size() - 1);
        }
    }

    int make(int marks, int what) {
        if (no(marks, 0, 255) || no(what, 0, 1)) return OUTSIDE;
        int[] best = null;
        for (int set = 63; set >= 0; set--) {
            int sum = 0;
            int all = 0;
            boolean there = true;
            for (int i = 0; i < 6; i++) {
                if ((set & 1 << i) != 0) {
                    int[] row = world.griefs.get(i);
                    there &= row != null;
                    sum += row == null ? 0 : row[0];
                    all |= row == null ? 0 : row[1];
                }
            }
            if (there && all == marks && (best == null || sum <= best[0])) best = new int[] {sum, set};
        }
        return best == null ? NONE : best[what];
    }

    int ring(int a, int b, int what) {
        if (no(a, 0, 23) || no(b, 0, 23) || b < a || no(what, 0, 1)) return OUTSIDE;
        for (int few = 0; few <= 8; few++) {
            for (int set = 0; set < 256; set++) {
                if (Integer.bitCount(set) == few && covers(set, a, b)) return what == 0 ? few : set;
            }
        }
        return NONE;
    }

    private boolean covers(int set, int a, int b) {
        for (int hour = a; hour <= b; hour++) {
            boolean held = false;
            for (int i = 0; i < 8; i++) {
                held |= (set & 1 << i) != 0 && world.coats[i][0] <= hour && hour <= world.coats[i][1];
            }
            if (!held) return false;
        }
        return true;
    }

    int seen(int hold, boolean fits) {
        if (no(hold, 0, 5)) return UNKNOWN;
        if (world.sights.size() == 8) return FULL;
        world.sights.add(new int[] {hold, fits ? 1 : 0});
        return world.sights.size();
    }

    int forget() {
        int before = world.sights.size();
        world.sights.clear();
        return before;
    }

    private List<Integer> shapes() {
        List<Integer> left = new ArrayList<>();
        for (int shape = 0; shape < 256; shape++) {
            boolean so = true;
            for (int[] sight : world.sights) so &= fits(world.holds[sight[0]], shape) == (sight[1] == 1);
            if (so) left.add(shape);
        }
        return left;
    }

    int shape(int i) {
        List<Integer> left = shapes();
        return i == -1 ? left.size() : i >= 0 && i < left.size() ? left.get(i) : NONE;
    }

    int ask(int what) {
        if (no(what, 0, 1)) return OUTSIDE;
        List<Integer> left = shapes();
        if (left.isEmpty()) return NONE;
        int[] best = {NONE, 1000};
        for (int hold = 5; hold >= 0; hold--) {
            int fit = 0;
            for (int shape : left) fit += fits(world.holds[hold], shape) ? 1 : 0;
            int most = Math.max(fit, left.size() - fit);
            if (most <= best[1]) best = new int[] {hold, most};
        }
        return best[what];
    }

    private final Map<Integer, Boolean> known = new HashMap<>();

    /** Whether one who moves from a state can bring it about (wins) or must bear it (loses) in so many moves. */
    private boolean over(boolean wins, int state, int within) {
        int key = (wins ? 1000 : 0) + 100 * state + within;
        Boolean had = known.get(key);
        if (had != null) return had;
        boolean is = !wins;
        if (within == 0) {
            for (boolean one : world.moves[state]) is &= !one;
        } else {
            for (int to = 0; to < 10; to++) {
                if (world.moves[state][to]) {
                    is = wins ? is || over(false, to, within - 1) : is && over(true, to, within - 1);
                }
            }
        }
        known.put(key, is);
        return is;
    }

    private int soonest(boolean wins, int state) {
        for (int within = 0; within <= 25; within++) if (over(wins, state, within)) return within;
        return NONE;
    }

    int play(int state, int what) {
        if (no(state, 0, 9)) return UNKNOWN;
        if (no(what, 0, 2)) return OUTSIDE;
        known.clear();
        int won = soonest(true, state);
        int lost = soonest(false, state);
        if (what == 0) return won != NONE ? 1 : lost != NONE ? 0 : 2;
        if (what == 1) return won != NONE ? won : lost;
        for (int to = 0; to < 10 && won != NONE; to++) {
            if (world.moves[state][to] && over(false, to, won - 1)) return to;
        }
        return NONE;
    }

    long themselves(int n, int t, int k, int part) {
        if (no(n, 0, 17) || no(t, 0, 10) || no(k, 0, n) || no(part, 0, 1)) return -1000000000000000002L;
        BigInteger[] row = new BigInteger[19];
        Arrays.fill(row, BigInteger.ZERO);
        row[0] = BigInteger.ONE;
        for (int man = 0; man < n; man++) {
            for (int i = 18; i >= 0; i--) {
                BigInteger same = row[i].multiply(BigInteger.valueOf(10 - t));
                row[i] = i == 0 ? same : same.add(row[i - 1].multiply(BigInteger.valueOf(t)));
            }
        }
        BigInteger lower = BigInteger.TEN.pow(n);
        BigInteger common = lower.gcd(row[k]);
        return (part == 0 ? row[k] : lower).divide(common).longValueExact();
    }

    int year(int seed, int m, int what) {
        if (no(seed, 0, 9999) || no(m, 1, 99) || no(what, 0, 2)) return OUTSIDE;
        World w = world.copy();
        long x = seed;
        for (int i = 0; i < m; i++) {
            x = (75L * x + 74) % 65537;
            int y = (int) (x / 8);
            String act;
            switch ((int) (x % 8)) {
                case 0: case 1: case 2: case 3:
                    act = "" + "ABCDEF".charAt(y / 6 % 6) + y % 6;
                    break;
                case 4:
                    act = "ABCDEF".charAt(y % 6) + "_";
                    break;
                case 5:
                    act = "~";
                    break;
                default:
                    act = ".";
            }
            act(w, act);
        }
        int sum = 0;
        for (int[] row : w.griefs.values()) sum += row[0];
        return new int[] {w.griefs.size(), w.breath, sum}[what];
    }

    int image(int n) {
        if (no(n, 0, 1)) return OUTSIDE;
        images[n] = world.copy();
        return 1;
    }

    int restore(int n) {
        if (no(n, 0, 1)) return OUTSIDE;
        if (images[n] == null) return STATE;
        world = images[n].copy();
        return 1;
    }

    int told(int what) {
        if (what >= 0 && what <= 4) {
            return new int[] {pad.length(), bits(world.griefs.keySet()), world.breath, world.hour,
                world.sights.size()}[what];
        }
        if (what >= 10 && what <= 19) {
            int bits = 0;
            for (int to = 0; to < 10; to++) bits += world.moves[what - 10][to] ? 1 << to : 0;
            return bits;
        }
        if (what >= 20 && what <= 27) return 100 * world.coats[what - 20][0] + world.coats[what - 20][1];
        if (what >= 30 && what <= 35) return holdTold(what - 30);
        for (int grief : world.griefs.keySet()) {
            for (int part = 0; part < 2; part++) {
                if (what == 100 + 10 * grief + part) return world.griefs.get(grief)[part];
            }
        }
        return OUTSIDE;
    }
}
