/**
 * "Calls that are refused answer, the first of these that fits: UNKNOWN, OUTSIDE, NO, STATE, FULL. They change
 * nothing." Each refused call is made in each scene where it is refused so, and all that can be asked of the
 * object then is asked of another one too, on which it was not made.
 */
public final class RefusedTest {
    private static final int UNKNOWN = -1, OUTSIDE = -2, STATE = -3, FULL = -4, NO = -5;
    private static final long LOST_OUTSIDE = -1000000000000000002L;
    private static final int FAR = Integer.MAX_VALUE, NEAR_LEAST = Integer.MIN_VALUE;

    private static final Scenes[] ALL = Scenes.values();
    private static final Scenes[] WITH_GRIEFS = {Scenes.CAN_BE_DONE, Scenes.HAS_FAULT, Scenes.CAN_NOT_BE,
        Scenes.FULL, Scenes.FULL_WITH_FAULT};
    private static final Scenes[] FAULTY = {Scenes.HAS_FAULT, Scenes.FULL_WITH_FAULT};
    private static final Scenes[] NOT_TO_BE_DONE = {Scenes.HAS_FAULT, Scenes.CAN_NOT_BE, Scenes.FULL_WITH_FAULT};
    private static final Scenes[] FULL_ONES = {Scenes.FULL, Scenes.FULL_WITH_FAULT};

    private static final String[] UNTOUCHED = new String[ALL.length];

    public static void main(String[] args) {
        for (Scenes scene : ALL) {
            UNTOUCHED[scene.ordinal()] = Scenes.everything(scene.make());
        }
        unknown();
        unknownBeforeAll();
        outside();
        outsideOfWhat();
        outsideBeforeTheRest();
        no();
        state();
        full();
        askingChangesNothing();
        Check.end(RefusedTest.class);
    }

    private static void refused(String call, long due, Scenes[] scenes, Check.Call it) {
        for (Scenes scene : scenes) {
            MireWrestle x = scene.make();
            Check.due(call + " in " + scene, it.on(x), due);
            Check.same(call + " in " + scene, Scenes.everything(x), UNTOUCHED[scene.ordinal()]);
        }
    }

    /** "UNKNOWN -1 (there is no such GRIEF, HOLD, COAT, STATE of mud)" */
    private static void unknown() {
        refused("grief(-1, 1, 0)", UNKNOWN, ALL, x -> x.grief(-1, 1, 0));
        refused("grief(6, 1, 0)", UNKNOWN, ALL, x -> x.grief(6, 1, 0));
        refused("hold(-1, 0, 5, 2)", UNKNOWN, ALL, x -> x.hold(-1, 0, 5, 2));
        refused("hold(6, 0, 5, 2)", UNKNOWN, ALL, x -> x.hold(6, 0, 5, 2));
        refused("coat(-1, 0, 0)", UNKNOWN, ALL, x -> x.coat(-1, 0, 0));
        refused("coat(8, 0, 0)", UNKNOWN, ALL, x -> x.coat(8, 0, 0));
        refused("move(-1, 0, true)", UNKNOWN, ALL, x -> x.move(-1, 0, true));
        refused("move(10, 0, true)", UNKNOWN, ALL, x -> x.move(10, 0, true));
        refused("move(0, -1, true)", UNKNOWN, ALL, x -> x.move(0, -1, true));
        refused("move(0, 10, false)", UNKNOWN, ALL, x -> x.move(0, 10, false));
        refused("move(0, 0, true)", UNKNOWN, ALL, x -> x.move(0, 0, true));
        refused("move(9, 9, false)", UNKNOWN, ALL, x -> x.move(9, 9, false));
        refused("fitting(-1)", UNKNOWN, ALL, x -> x.fitting(-1));
        refused("fitting(6)", UNKNOWN, ALL, x -> x.fitting(6));
        refused("fitting(4), not there", UNKNOWN, ALL, x -> x.fitting(4));
        refused("least(-1, 0)", UNKNOWN, ALL, x -> x.least(-1, 0));
        refused("least(6, 0)", UNKNOWN, ALL, x -> x.least(6, 0));
        refused("least(3, 1), not there", UNKNOWN, ALL, x -> x.least(3, 1));
        refused("play(-1, 0)", UNKNOWN, ALL, x -> x.play(-1, 0));
        refused("play(10, 0)", UNKNOWN, ALL, x -> x.play(10, 0));
    }

    private static void unknownBeforeAll() {
        refused("grief(6, 0, 256)", UNKNOWN, ALL, x -> x.grief(6, 0, 256));
        refused("hold(-1, 256, 0, 0)", UNKNOWN, ALL, x -> x.hold(-1, 256, 0, 0));
        refused("coat(8, 5, 4)", UNKNOWN, ALL, x -> x.coat(8, 5, 4));
        refused("least(4, 2)", UNKNOWN, ALL, x -> x.least(4, 2));
        refused("play(10, 3)", UNKNOWN, ALL, x -> x.play(10, 3));
        refused("behind(-1, 0), be there a FAULT or not", UNKNOWN, ALL, x -> x.behind(-1, 0));
        refused("behind(6, 0), be there a FAULT or not", UNKNOWN, ALL, x -> x.behind(6, 0));
        refused("behind(4, 1), be there a FAULT or not", UNKNOWN, ALL, x -> x.behind(4, 1));
        refused("behind(3, 2), be there a FAULT or not", UNKNOWN, ALL, x -> x.behind(3, 2));
        refused("seen(-1, true), be it FULL or not", UNKNOWN, ALL, x -> x.seen(-1, true));
        refused("seen(6, false), be it FULL or not", UNKNOWN, ALL, x -> x.seen(6, false));
    }

    /** "OUTSIDE -2 (another number is not as told)" */
    private static void outside() {
        refused("grief(0, 0, 1)", OUTSIDE, ALL, x -> x.grief(0, 0, 1));
        refused("grief(0, 100, 1)", OUTSIDE, ALL, x -> x.grief(0, 100, 1));
        refused("grief(3, 1, -1)", OUTSIDE, ALL, x -> x.grief(3, 1, -1));
        refused("grief(3, 1, 256)", OUTSIDE, ALL, x -> x.grief(3, 1, 256));
        refused("hold(0, -1, 5, 2)", OUTSIDE, ALL, x -> x.hold(0, -1, 5, 2));
        refused("hold(0, 256, 5, 2)", OUTSIDE, ALL, x -> x.hold(0, 256, 5, 2));
        refused("hold(1, 2, 0, 2)", OUTSIDE, ALL, x -> x.hold(1, 2, 0, 2));
        refused("hold(1, 2, 21, 2)", OUTSIDE, ALL, x -> x.hold(1, 2, 21, 2));
        refused("hold(1, 2, 5, 0)", OUTSIDE, ALL, x -> x.hold(1, 2, 5, 0));
        refused("hold(1, 2, 5, 10)", OUTSIDE, ALL, x -> x.hold(1, 2, 5, 10));
        refused("breath(-1)", OUTSIDE, ALL, x -> x.breath(-1));
        refused("breath(100)", OUTSIDE, ALL, x -> x.breath(100));
        refused("coat(0, -1, 2)", OUTSIDE, ALL, x -> x.coat(0, -1, 2));
        refused("coat(0, 2, 24)", OUTSIDE, ALL, x -> x.coat(0, 2, 24));
        refused("coat(0, 24, 24)", OUTSIDE, ALL, x -> x.coat(0, 24, 24));
        refused("coat(0, 2, 1)", OUTSIDE, ALL, x -> x.coat(0, 2, 1));
        refused("make(-1, 0)", OUTSIDE, ALL, x -> x.make(-1, 0));
        refused("make(256, 0)", OUTSIDE, ALL, x -> x.make(256, 0));
        refused("ring(-1, 2, 0)", OUTSIDE, ALL, x -> x.ring(-1, 2, 0));
        refused("ring(2, 24, 0)", OUTSIDE, ALL, x -> x.ring(2, 24, 0));
        refused("ring(2, 1, 0)", OUTSIDE, ALL, x -> x.ring(2, 1, 0));
        refused("year(-1, 1, 0)", OUTSIDE, ALL, x -> x.year(-1, 1, 0));
        refused("year(10000, 1, 0)", OUTSIDE, ALL, x -> x.year(10000, 1, 0));
        refused("year(0, 0, 0)", OUTSIDE, ALL, x -> x.year(0, 0, 0));
        refused("year(0, 100, 0)", OUTSIDE, ALL, x -> x.year(0, 100, 0));
        refused("image(-1)", OUTSIDE, ALL, x -> x.image(-1));
        refused("image(2)", OUTSIDE, ALL, x -> x.image(2));
        refused("told(-1)", OUTSIDE, ALL, x -> x.told(-1));
        refused("told(140), of a GRIEF that is not there", OUTSIDE, ALL, x -> x.told(140));
        refused("told(160), of no GRIEF", OUTSIDE, ALL, x -> x.told(160));
    }

    private static void outsideOfWhat() {
        for (int what : new int[] {-1, 2, FAR, NEAR_LEAST}) {
            refused("least(0, " + what + ")", OUTSIDE, WITH_GRIEFS, x -> x.least(0, what));
            refused("order(" + what + ")", OUTSIDE, ALL, x -> x.order(what));
            refused("make(0, " + what + ")", OUTSIDE, ALL, x -> x.make(0, what));
            refused("ring(0, 0, " + what + ")", OUTSIDE, ALL, x -> x.ring(0, 0, what));
            refused("ask(" + what + ")", OUTSIDE, ALL, x -> x.ask(what));
        }
        for (int what : new int[] {-1, 3, FAR, NEAR_LEAST}) {
            refused("play(0, " + what + ")", OUTSIDE, ALL, x -> x.play(0, what));
            refused("year(0, 1, " + what + ")", OUTSIDE, ALL, x -> x.year(0, 1, what));
        }
        refused("themselves(18, 0, 0, 0)", LOST_OUTSIDE, ALL, x -> x.themselves(18, 0, 0, 0));
        refused("themselves(-1, 0, 0, 0)", LOST_OUTSIDE, ALL, x -> x.themselves(-1, 0, 0, 0));
        refused("themselves(1, 11, 0, 0)", LOST_OUTSIDE, ALL, x -> x.themselves(1, 11, 0, 0));
        refused("themselves(1, -1, 0, 0)", LOST_OUTSIDE, ALL, x -> x.themselves(1, -1, 0, 0));
        refused("themselves(1, 1, 2, 0)", LOST_OUTSIDE, ALL, x -> x.themselves(1, 1, 2, 0));
        refused("themselves(1, 1, -1, 0)", LOST_OUTSIDE, ALL, x -> x.themselves(1, 1, -1, 0));
        refused("themselves(1, 1, 1, 2)", LOST_OUTSIDE, ALL, x -> x.themselves(1, 1, 1, 2));
        refused("themselves(1, 1, 1, -1)", LOST_OUTSIDE, ALL, x -> x.themselves(1, 1, 1, -1));
    }

    private static void outsideBeforeTheRest() {
        for (int what : new int[] {-1, 2, FAR, NEAR_LEAST}) {
            refused("judge(" + what + "), be there a FAULT or not", OUTSIDE, ALL, x -> x.judge(what));
            refused("behind(0, " + what + "), be there a FAULT or not", OUTSIDE, WITH_GRIEFS,
                x -> x.behind(0, what));
            refused("restore(" + what + "), which was not kept", OUTSIDE, ALL, x -> x.restore(what));
        }
        for (int what : new int[] {-1, 6, FAR, NEAR_LEAST}) {
            refused("then(" + what + "), be there a FAULT or not", OUTSIDE, ALL, x -> x.then(what));
        }
        for (int sign : new int[] {32, 127, 0, -1, FAR, NEAR_LEAST}) {
            refused("say(" + sign + "), be it FULL or not", OUTSIDE, ALL, x -> x.say(sign));
        }
    }

    /** "NO: there is a FAULT"; "NO: there is a FAULT, or an ACT that can not be"; "NO, as of done()" */
    private static void no() {
        refused("judge(0)", NO, FAULTY, x -> x.judge(0));
        refused("judge(1)", NO, FAULTY, x -> x.judge(1));
        refused("done()", NO, NOT_TO_BE_DONE, x -> x.done());
        for (int grief : new int[] {0, 1, 2, 5}) {
            refused("behind(" + grief + ", 0)", NO, NOT_TO_BE_DONE, x -> x.behind(grief, 0));
            refused("behind(" + grief + ", 1)", NO, NOT_TO_BE_DONE, x -> x.behind(grief, 1));
        }
        for (int what = 0; what < 6; what++) {
            int one = what;
            refused("then(" + what + ")", NO, NOT_TO_BE_DONE, x -> x.then(one));
        }
    }

    /** "STATE: it was not" (kept) */
    private static void state() {
        refused("restore(1)", STATE, ALL, x -> x.restore(1));
        refused("restore(0)", STATE, new Scenes[] {Scenes.FRESH}, x -> x.restore(0));
    }

    /** "A sign more: how many. OUTSIDE; FULL."; "A SIGHT more: how many. UNKNOWN: the HOLD; FULL." */
    private static void full() {
        refused("say(33)", FULL, FULL_ONES, x -> x.say(33));
        refused("say(126)", FULL, FULL_ONES, x -> x.say(126));
        refused("seen(0, true)", FULL, FULL_ONES, x -> x.seen(0, true));
        refused("seen(5, false)", FULL, FULL_ONES, x -> x.seen(5, false));
    }

    /** Not refused, and yet: "Nothing is DONE in fact", nor by asking what would be. */
    private static void askingChangesNothing() {
        Check.Call[] asked = {x -> x.judge(0), x -> x.behind(0, 0), x -> x.then(3), x -> x.fitting(5),
            x -> x.least(5, 1), x -> x.order(1), x -> x.make(7, 1), x -> x.ring(3, 8, 1), x -> x.shape(-1),
            x -> x.ask(1), x -> x.play(4, 1), x -> x.themselves(17, 4, 8, 0), x -> x.year(72, 99, 2),
            x -> x.told(2), x -> x.fault()};
        for (Scenes scene : ALL) {
            MireWrestle x = scene.make();
            for (Check.Call one : asked) {
                one.on(x);
            }
            Check.same("asking in " + scene, Scenes.everything(x), UNTOUCHED[scene.ordinal()]);
        }
    }
}
