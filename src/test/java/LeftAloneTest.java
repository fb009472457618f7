import java.util.TreeMap;

/**
 * What a call leaves alone. An object has a known value wherever told() can look; after each call all of it is looked
 * at, and only what the document says may be another. The values are the test's own, so that a call that spoils
 * something on every object alike can not hide.
 */
public final class LeftAloneTest {
    private static final int NONE = -6, OUTSIDE = -2, NO = -5;

    public static void main(String[] args) {
        changesOneThing();
        signsAndSights();
        askedOfThePad();
        reckoned();
        refusedDays();
        doneDays();
        years();
        imagesKeepAll();
        imagesAreApart();
        imagesKeepEachSight();
        Check.end(LeftAloneTest.class);
    }

    /** All full of values that differ, and five SIGHTS. */
    private static MireWrestle filled() {
        MireWrestle x = new MireWrestle();
        Check.write(x, "...");
        x.done();
        for (int i = 0; i < 6; i++) {
            x.grief(i, 40 + i, 192 + i);
            x.hold(i, 1 << i, 10 + i, 9 - i);
        }
        for (int coat = 0; coat < 8; coat++) {
            x.coat(coat, 2 * coat, 2 * coat + 3);
        }
        for (int state = 0; state < 10; state++) {
            x.move(state, (state + 1) % 10, true);
            x.move(state, (state + 4) % 10, true);
        }
        for (int i = 0; i < 5; i++) {
            x.seen(5 - i, i % 2 == 0);
        }
        x.breath(71);
        Check.write(x, "A_.");
        return x;
    }

    /** What told() must tell of one that is filled(). */
    private static TreeMap<Integer, Integer> values() {
        TreeMap<Integer, Integer> due = new TreeMap<>();
        put(due, 0, 3, 63, 71, 3, 5);
        for (int state = 0; state < 10; state++) {
            put(due, 10 + state, (1 << (state + 1) % 10) + (1 << (state + 4) % 10));
        }
        for (int coat = 0; coat < 8; coat++) {
            put(due, 20 + coat, 202 * coat + 3);
        }
        for (int i = 0; i < 6; i++) {
            put(due, 30 + i, 1000 * (1 << i) + 10 * (10 + i) + 9 - i);
            put(due, 100 + 10 * i, 40 + i, 192 + i);
        }
        return due;
    }

    /** One value after the other, from the first what on. */
    private static void put(TreeMap<Integer, Integer> due, int first, int... values) {
        for (int i = 0; i < values.length; i++) {
            due.put(first + i, values[i]);
        }
    }

    /** The rows that are given are a what and its new value each; all else must be as it was. */
    private static void allBut(String call, MireWrestle x, int[]... changed) {
        TreeMap<Integer, Integer> due = values();
        for (int[] row : changed) {
            due.put(row[0], row[1]);
        }
        due.forEach((what, value) -> Check.due(call + ", then told(" + what + ")", x.told(what), value));
    }

    /** HOLDS 5, 3 and 1 are seen to FIT, HOLDS 4 and 2 not to. */
    private static void fiveSights(String call, MireWrestle x) {
        Check.row(call + ", then SHAPES", new long[] {x.shape(-1), x.shape(0), x.shape(1), x.shape(7)},
            8, 42, 43, 235);
    }

    private static int[] is(int what, int value) {
        return new int[] {what, value};
    }

    private static void changesOneThing() {
        MireWrestle x = filled();
        allBut("filled", x);
        fiveSights("filled", x);
        x = filled();
        x.grief(2, 7, 9);
        allBut("grief", x, is(120, 7), is(121, 9));
        x = filled();
        x.hold(3, 1, 2, 4);
        allBut("hold", x, is(33, 1024));
        x = filled();
        x.breath(0);
        allBut("breath", x, is(2, 0));
        x = filled();
        x.coat(6, 0, 23);
        allBut("coat", x, is(26, 23));
        x = filled();
        x.move(9, 8, true);
        allBut("move", x, is(19, 256 + 1 + 8));
        x = filled();
        x.move(4, 8, false);
        allBut("no move", x, is(14, 32));
        fiveSights("no move", x);
    }

    private static void signsAndSights() {
        MireWrestle x = filled();
        x.say('~');
        allBut("say", x, is(0, 4));
        x.wipe();
        allBut("wipe", x, is(0, 0));
        fiveSights("wipe", x);
        x = filled();
        x.seen(0, false);
        allBut("seen", x, is(4, 6));
        Check.row("seen", new long[] {x.shape(-1), x.shape(0), x.shape(3), x.shape(4)}, 4, 42, 234, NONE);
        x.forget();
        allBut("forget", x, is(4, 0));
    }

    /** JUDGED and BEHIND are asked, and not DONE. */
    private static void askedOfThePad() {
        MireWrestle x = filled();
        Check.row("judge", new long[] {x.fault(), x.judge(0), x.judge(1)}, NONE, NONE, NONE);
        allBut("judge", x);
        Check.row("behind", new long[] {x.behind(0, 0), x.behind(5, 0), x.behind(5, 1)}, 23, 48, 197);
        allBut("behind", x);
        Check.row("then", Check.then(x), 63, 66, 4, 0, NONE, NONE);
        allBut("then", x);
        fiveSights("then", x);
    }

    private static void reckoned() {
        MireWrestle x = filled();
        for (int what = 0; what < 2; what++) {
            x.fitting(1);
            x.least(1, what);
            x.order(what);
            x.make(193, what);
            x.ring(0, 17, what);
            x.ask(what);
            x.play(3, what);
            x.themselves(17, 3, 8, what);
        }
        allBut("reckoned", x);
        fiveSights("reckoned", x);
    }

    private static void refusedDays() {
        MireWrestle x = filled();
        Check.write(x, "..A_B+CB_C_");
        Check.row("one can not be", new long[] {x.done(), x.judge(0), x.behind(0, 0), x.then(1)}, NO, 5, NO, NO);
        allBut("an ACT that can not be", x, is(0, 11));
        Check.write(x, "..A_B+");
        Check.row("there is a FAULT", new long[] {x.done(), x.judge(0), x.behind(0, 0), x.then(1)}, NO, NO, NO, NO);
        allBut("a FAULT", x, is(0, 6));
        fiveSights("a FAULT", x);
    }

    private static void doneDays() {
        MireWrestle x = filled();
        x.hold(2, 0, 12, 7);
        Check.write(x, "D+F~C2.");
        Check.due("done", x.done(), 4);
        allBut("done", x, is(0, 0), is(1, 31), is(2, 71 + 20 - 7 + 5), is(3, 4), is(32, 127), is(100, 43), is(110, 44),
            is(120, 42 - 12 + 3), is(130, 43 + 45 + 3), is(131, 199), is(140, 47), is(150, OUTSIDE),
            is(151, OUTSIDE));
        Check.row("done, then RING", new long[] {x.ring(0, 17, 0), x.ring(0, 17, 1)}, 5, 1 + 2 + 8 + 32 + 128);
        Check.row("done, then PLAY", new long[] {x.play(0, 0), x.play(9, 0)}, 2, 2);
    }

    /** "Nothing is DONE in fact." */
    private static void years() {
        MireWrestle x = filled();
        x.year(5, 99, 0);
        x.year(9999, 50, 1);
        x.year(77, 99, 2);
        allBut("year", x);
        fiveSights("year", x);
    }

    private static void spoil(MireWrestle x) {
        for (int i = 0; i < 6; i++) {
            x.grief(i, 1, 0);
            x.hold(i, 255, 1, 1);
        }
        for (int coat = 0; coat < 8; coat++) {
            x.coat(coat, 23, 23);
        }
        for (int state = 0; state < 10; state++) {
            x.move(state, (state + 1) % 10, false);
            x.move(state, (state + 4) % 10, false);
            x.move(state, (state + 5) % 10, true);
        }
        x.forget();
        for (int i = 0; i < 8; i++) {
            x.seen(0, i % 2 == 1);
        }
        Check.write(x, "A_.");
        Check.due("done", x.done(), 2);
        Check.write(x, "~~");
        x.breath(8);
    }

    /** "All but the PAD is kept in an IMAGE"; "It is as it was when it was kept" */
    private static void imagesKeepAll() {
        for (int n = 0; n < 2; n++) {
            MireWrestle x = filled();
            Check.due("image", x.image(n), 1);
            allBut("image", x);
            spoil(x);
            Check.due("restore", x.restore(n), 1);
            allBut("restore", x, is(0, 2));
            fiveSights("restore", x);
            Check.row("restored", new long[] {x.fitting(5), x.ring(0, 17, 1), x.play(0, 0)}, 5, 171, 2);
        }
    }

    /** One IMAGE is not the other, and neither is what is there now. */
    private static void imagesAreApart() {
        MireWrestle x = filled();
        x.image(1);
        spoil(x);
        x.image(0);
        String spoiled = Check.told(x);
        x.restore(1);
        x.forget();
        x.breath(1);
        x.grief(3, 1, 1);
        x.restore(1);
        allBut("restored again", x, is(0, 2));
        fiveSights("restored again", x);
        x.restore(0);
        Check.same("the other IMAGE", Check.told(x), spoiled);
        Check.due("the other IMAGE", x.shape(-1), 0);
    }

    /** Of eight SIGHTS one alone is told by HOLD 1, and it counts after a restore as it did before. */
    private static void imagesKeepEachSight() {
        for (int i = 0; i < 16; i++) {
            boolean fits = i % 2 == 0;
            MireWrestle x = new MireWrestle();
            x.hold(1, 64, 5, 2);
            for (int k = 0; k < 8; k++) {
                x.seen(k == i / 2 ? 1 : 0, k != i / 2 || fits);
            }
            x.image(0);
            x.forget();
            for (int k = 0; k < 8; k++) {
                x.seen(2, k == i / 2 ? !fits : false);
            }
            Check.due("other SIGHTS", x.shape(-1), 0);
            x.restore(0);
            Check.row("SIGHT " + i / 2 + (fits ? " FITS" : " does not"), new long[] {x.told(4), x.shape(-1), x.shape(0),
                x.shape(127)}, 8, 128, fits ? 64 : 0, fits ? 255 : 191);
        }
    }
}
