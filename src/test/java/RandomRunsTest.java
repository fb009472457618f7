import java.util.Random;

/** Runs of random calls, each answered by the class and by the plain model. */
public final class RandomRunsTest {
    private static final int RUNS = 4000;
    private static final int CALLS = 512;
    private static final String SIGNS = "ABCDEF012345+_~.";

    private final Random random;
    private final MireWrestle x = new MireWrestle();
    private final PlainModel model = new PlainModel();
    private final int run;
    /** Few GRIEFS and STATES in some runs, so that they meet more often. */
    private final int few;
    private int calls = 0;

    private RandomRunsTest(int run) {
        this.run = run;
        random = new Random(run);
        few = 1 + random.nextInt(10);
    }

    public static void main(String[] args) {
        for (int run = 0; run < RUNS; run++) {
            new RandomRunsTest(run).go();
        }
        Check.end(RandomRunsTest.class);
    }

    private void go() {
        while (calls < CALLS - 60) {
            switch (random.nextInt(7)) {
                case 0: case 1: change(); break;
                case 2: tell(); break;
                case 3: days(); break;
                case 4: reckon(); break;
                case 5: sights(); break;
                default: rest(); break;
            }
        }
    }

    private void due(String call, long got, long want) {
        calls++;
        Check.due("run " + run + ", call " + calls + ": " + call, got, want);
    }

    /** Mostly from low to high, now and then beyond, at an edge, or anything. */
    private int from(int low, int high) {
        switch (random.nextInt(40)) {
            case 0: return low - 1;
            case 1: return high + 1;
            case 2: return random.nextInt();
            case 3: case 4: return low;
            case 5: case 6: return high;
            default: return low + random.nextInt(high - low + 1);
        }
    }

    private int grief() {
        return from(0, Math.min(5, few - 1));
    }

    private int state() {
        return random.nextBoolean() ? from(0, few - 1) : from(0, 9);
    }

    private int marks() {
        return random.nextInt(3) == 0 ? from(0, 255) : from(0, 7);
    }

    private void change() {
        int a = from(0, 23);
        int b = from(Math.max(0, Math.min(23, a)), 23);
        switch (random.nextInt(6)) {
            case 0: case 1: putGrief(); break;
            case 2: putHold(); break;
            case 3:
                int v = from(0, 99);
                due("breath", x.breath(v), model.breath(v));
                break;
            case 4:
                int coat = from(0, 7);
                due("coat", x.coat(coat, a, b), model.coat(coat, a, b));
                break;
            default:
                int s = state();
                int to = state();
                boolean is = random.nextInt(5) > 0;
                due("move", x.move(s, to, is), model.move(s, to, is));
                break;
        }
    }

    private void putGrief() {
        int g = grief();
        int strength = random.nextBoolean() ? from(1, 20) : from(1, 99);
        int shape = marks();
        due("grief", x.grief(g, strength, shape), model.grief(g, strength, shape));
    }

    private void putHold() {
        int h = from(0, 5);
        int grips = random.nextBoolean() ? marks() : from(0, 255) & from(0, 255) & from(0, 255);
        int force = from(1, 20);
        int takes = from(1, 9);
        due("hold", x.hold(h, grips, force, takes), model.hold(h, grips, force, takes));
    }

    private void tell() {
        int what = random.nextBoolean() ? from(0, 35) : 100 + from(0, 70);
        due("told " + what, x.told(what), model.told(what));
        if (random.nextInt(12) == 0) {
            int n = from(0, 1);
            due("image", x.image(n), model.image(n));
        } else if (random.nextInt(12) == 0) {
            int n = from(0, 1);
            due("restore", x.restore(n), model.restore(n));
        }
    }

    private void days() {
        if (random.nextInt(3) == 0) {
            due("wipe", x.wipe(), model.wipe());
        }
        int acts = random.nextInt(10) == 0 ? 24 : random.nextInt(6);
        for (int i = 0; i < acts; i++) {
            for (char sign : act().toCharArray()) {
                due("say " + sign, x.say(sign), model.say(sign));
            }
        }
        due("fault", x.fault(), model.fault());
        int what = from(0, 1);
        due("judge " + what, x.judge(what), model.judge(what));
        int g = grief();
        what = from(0, 1);
        due("behind", x.behind(g, what), model.behind(g, what));
        what = from(0, 5);
        due("then " + what, x.then(what), model.then(what));
        if (random.nextInt(3) == 0) {
            due("done", x.done(), model.done());
        }
    }

    private char letter() {
        return (char) ('A' + random.nextInt(Math.min(6, few)));
    }

    private String act() {
        switch (random.nextInt(60)) {
            case 0: return "" + SIGNS.charAt(random.nextInt(SIGNS.length()));
            case 1: return "" + (char) random.nextInt(140);
            default: break;
        }
        switch (random.nextInt(8)) {
            case 0: return "~";
            case 1: case 2: return ".";
            case 3: return letter() + "+" + letter();
            case 4: return letter() + "_";
            default: return "" + letter() + random.nextInt(6);
        }
    }

    private void reckon() {
        int what = from(0, 1);
        int g = grief();
        due("fitting", x.fitting(g), model.fitting(g));
        due("least", x.least(g, what), model.least(g, what));
        int marks = marks();
        due("make", x.make(marks, what), model.make(marks, what));
        int a = from(0, 23);
        int b = random.nextBoolean() ? a : from(0, 23);
        due("ring", x.ring(a, b, what), model.ring(a, b, what));
        if (random.nextInt(4) == 0) {
            due("order", x.order(what), model.order(what));
        }
    }

    private void sights() {
        if (random.nextInt(12) == 0) {
            due("forget", x.forget(), model.forget());
        }
        int h = from(0, 5);
        boolean fits = random.nextInt(3) > 0;
        due("seen", x.seen(h, fits), model.seen(h, fits));
        int i = from(-1, 255) >> random.nextInt(9);
        due("shape " + i, x.shape(i), model.shape(i));
        int what = from(0, 1);
        due("ask " + what, x.ask(what), model.ask(what));
    }

    private void rest() {
        int s = state();
        int what = from(0, 2);
        due("play", x.play(s, what), model.play(s, what));
        int seed = from(0, 9999);
        int m = from(1, 99);
        due("year", x.year(seed, m, what), model.year(seed, m, what));
        int n = from(0, 17);
        int t = from(0, 10);
        int k = from(0, Math.max(0, Math.min(17, n)));
        int part = from(0, 1);
        due("themselves", x.themselves(n, t, k, part), model.themselves(n, t, k, part));
    }
}
