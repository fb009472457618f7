/**
 * The least and the greatest value that each call takes, by what it answers and what then is so, and the first
 * beyond each. Before each test stands the sentence of the document that it is about.
 */
public final class ValuesTest {
    private static final int UNKNOWN = -1, OUTSIDE = -2;
    private static final long LOST_OUTSIDE = -1000000000000000002L;

    public static void main(String[] args) {
        griefs();
        strength();
        shapesOfGriefs();
        holds();
        grips();
        marksThatFit();
        force();
        takes();
        breath();
        coats();
        hoursOfCoats();
        states();
        signs();
        griefsAsked();
        marksMade();
        hoursOfRings();
        holdsSeen();
        shapesAsked();
        statesAsked();
        men();
        seeds();
        actsOfYears();
        images();
        told();
        whats();
        Check.end(ValuesTest.class);
    }

    /** Beyond low and high, near and far, each on an object of its own. */
    private static void beyond(String call, int low, int high, long refusal, Check.OpenCall it) {
        for (int number : new int[] {low - 1, high + 1, Integer.MIN_VALUE, Integer.MAX_VALUE}) {
            Check.due(call + " of " + number, it.on(Scenes.CAN_BE_DONE.make(), number), refusal);
        }
    }

    /** "GRIEFS 0 to 5 (A to F), none of which are there at first"; "how many are" */
    private static void griefs() {
        MireWrestle x = new MireWrestle();
        Check.due("grief 0", x.grief(0, 7, 1), 1);
        Check.due("GRIEFS", x.told(1), 1);
        Check.due("grief 5", x.grief(5, 8, 2), 2);
        Check.due("GRIEFS", x.told(1), 33);
        Check.due("grief 5 anew", x.grief(5, 9, 4), 2);
        Check.row("told of both", new long[] {x.told(100), x.told(101), x.told(150), x.told(151)}, 7, 1, 9, 4);
        beyond("grief", 0, 5, UNKNOWN, (y, v) -> y.grief(v, 1, 0));
    }

    /** "each has STRENGTH 1 to 99" */
    private static void strength() {
        MireWrestle x = new MireWrestle();
        Check.due("STRENGTH 1", x.grief(2, 1, 0), 1);
        Check.due("told", x.told(120), 1);
        Check.due("STRENGTH 99", x.grief(2, 99, 0), 1);
        Check.due("told", x.told(120), 99);
        beyond("STRENGTH", 1, 99, OUTSIDE, (y, v) -> y.grief(2, v, 0));
    }

    /** "and a SHAPE of MARKS 0 to 7 (bits)" */
    private static void shapesOfGriefs() {
        MireWrestle x = new MireWrestle();
        Check.due("SHAPE 0", x.grief(2, 1, 0), 1);
        Check.due("told", x.told(121), 0);
        Check.due("SHAPE 255", x.grief(2, 1, 255), 1);
        Check.due("told", x.told(121), 255);
        beyond("SHAPE", 0, 255, OUTSIDE, (y, v) -> y.grief(2, 1, v));
    }

    /** "HOLDS 0 to 5"; "has FORCE 1 to 20 (5 at first), takes 1 to 9 of BREATH (2 at first)"; "as they were" */
    private static void holds() {
        MireWrestle x = new MireWrestle();
        for (int hold = 0; hold < 6; hold++) {
            Check.due("told of HOLD at first", x.told(30 + hold), 52);
            Check.due("hold, as it was at first", x.hold(hold, hold, 6 + hold, 3), 52);
        }
        for (int hold = 0; hold < 6; hold++) {
            Check.due("told of HOLD", x.told(30 + hold), 1000 * hold + 10 * (6 + hold) + 3);
            Check.due("hold, as it was", x.hold(hold, 0, 5, 2), 1000 * hold + 10 * (6 + hold) + 3);
        }
        beyond("hold", 0, 5, UNKNOWN, (y, v) -> y.hold(v, 0, 5, 2));
    }

    /** "each GRIPS some MARKS (bits; none at first)" */
    private static void grips() {
        MireWrestle x = new MireWrestle();
        x.hold(4, 255, 5, 2);
        Check.due("GRIPS 255", x.told(34), 255052);
        x.hold(4, 0, 5, 2);
        Check.due("GRIPS 0", x.told(34), 52);
        beyond("GRIPS", 0, 255, OUTSIDE, (y, v) -> y.hold(4, v, 5, 2));
    }

    /** "it FITS a GRIEF that has all MARKS that it GRIPS" */
    private static void marksThatFit() {
        for (int mark = 0; mark < 8; mark++) {
            MireWrestle x = new MireWrestle();
            x.grief(0, 9, 255 - (1 << mark));
            x.grief(1, 9, 1 << mark);
            x.hold(0, 1 << mark, 5, 2);
            x.hold(1, 255 - (1 << mark), 5, 2);
            x.hold(2, 255, 5, 2);
            Check.row("all but MARK " + mark + ", and that alone", new long[] {x.fitting(0), x.fitting(1)},
                63 - 1 - 4, 63 - 2 - 4);
            x.grief(0, 9, 255);
            Check.due("all MARKS", x.fitting(0), 63);
        }
    }

    /** "has FORCE 1 to 20" */
    private static void force() {
        MireWrestle x = new MireWrestle();
        x.hold(4, 3, 1, 2);
        Check.due("FORCE 1", x.told(34), 3012);
        x.hold(4, 3, 20, 2);
        Check.due("FORCE 20", x.told(34), 3202);
        beyond("FORCE", 1, 20, OUTSIDE, (y, v) -> y.hold(4, 3, v, 2));
    }

    /** "takes 1 to 9 of BREATH" */
    private static void takes() {
        MireWrestle x = new MireWrestle();
        x.hold(4, 3, 5, 1);
        Check.due("takes 1", x.told(34), 3051);
        x.hold(4, 3, 5, 9);
        Check.due("takes 9", x.told(34), 3059);
        beyond("takes", 1, 9, OUTSIDE, (y, v) -> y.hold(4, 3, 5, v));
    }

    /** "BREATH is 0 to 99 (50 at first)"; "how much it was" */
    private static void breath() {
        MireWrestle x = new MireWrestle();
        Check.due("BREATH at first", x.told(2), 50);
        Check.due("breath(0)", x.breath(0), 50);
        Check.due("BREATH", x.told(2), 0);
        Check.due("breath(99)", x.breath(99), 0);
        Check.due("BREATH", x.told(2), 99);
        Check.due("breath(99) anew", x.breath(99), 99);
        beyond("breath", 0, 99, OUTSIDE, (y, v) -> y.breath(v));
    }

    /** "COATS 0 to 7"; "0 to 0 at first"; "as they were" */
    private static void coats() {
        MireWrestle x = new MireWrestle();
        for (int coat = 0; coat < 8; coat++) {
            Check.due("told of COAT at first", x.told(20 + coat), 0);
            Check.due("coat, as it was at first", x.coat(coat, coat, coat + 9), 0);
        }
        for (int coat = 0; coat < 8; coat++) {
            Check.due("told of COAT", x.told(20 + coat), 100 * coat + coat + 9);
            Check.due("coat, as it was", x.coat(coat, 1, 1), 100 * coat + coat + 9);
        }
        beyond("coat", 0, 7, UNKNOWN, (y, v) -> y.coat(v, 0, 0));
    }

    /** "from hour a to hour b (0 to 23, both, too)"; "OUTSIDE: b below a, too" */
    private static void hoursOfCoats() {
        MireWrestle x = new MireWrestle();
        x.coat(3, 0, 23);
        Check.due("0 to 23", x.told(23), 23);
        x.coat(3, 0, 0);
        Check.due("0 to 0", x.told(23), 0);
        x.coat(3, 23, 23);
        Check.due("23 to 23", x.told(23), 2323);
        x.coat(3, 22, 23);
        Check.due("22 to 23", x.told(23), 2223);
        Check.due("23 to 22", x.coat(3, 23, 22), OUTSIDE);
        Check.due("1 to 0", x.coat(3, 1, 0), OUTSIDE);
        Check.due("24 to 24", x.coat(3, 24, 24), OUTSIDE);
        Check.due("-1 to -1", x.coat(3, -1, -1), OUTSIDE);
        beyond("a", 0, 23, OUTSIDE, (y, v) -> y.coat(3, v, 23));
        beyond("b", 0, 23, OUTSIDE, (y, v) -> y.coat(3, 0, v));
    }

    /** "MUD has STATES 0 to 9"; "UNKNOWN: both, also one" */
    private static void states() {
        MireWrestle x = new MireWrestle();
        Check.due("0 to 9", x.move(0, 9, true), 1);
        Check.due("9 to 0", x.move(9, 0, true), 2);
        Check.due("0 to 1", x.move(0, 1, true), 3);
        Check.due("9 to 8", x.move(9, 8, true), 4);
        Check.row("told", new long[] {x.told(10), x.told(19)}, 514, 257);
        Check.due("none from 0 to 9", x.move(0, 9, false), 3);
        Check.due("none from 9 to 0", x.move(9, 0, false), 2);
        Check.row("told", new long[] {x.told(10), x.told(19)}, 2, 256);
        for (int state = 0; state < 10; state++) {
            Check.due("from one to the same", x.move(state, state, true), UNKNOWN);
            Check.due("none from one to the same", x.move(state, state, false), UNKNOWN);
        }
        beyond("from", 0, 9, UNKNOWN, (y, v) -> y.move(v, 5, true));
        beyond("to", 0, 9, UNKNOWN, (y, v) -> y.move(5, v, true));
        beyond("both", 0, 9, UNKNOWN, (y, v) -> y.move(v, v, true));
    }

    /** "codes 33 to 126" */
    private static void signs() {
        MireWrestle x = new MireWrestle();
        Check.due("say(33)", x.say(33), 1);
        Check.due("say(126)", x.say(126), 2);
        beyond("say", 33, 126, OUTSIDE, (y, v) -> y.say(v));
        MireWrestle all = new MireWrestle();
        for (int sign = 33; sign <= 126; sign++) {
            Check.due("say(" + sign + ")", all.say(sign), 1);
            all.wipe();
        }
    }

    /** "UNKNOWN: it is not there" */
    private static void griefsAsked() {
        MireWrestle x = new MireWrestle();
        for (int grief = 0; grief < 6; grief++) {
            Check.row("not there", new long[] {x.fitting(grief), x.least(grief, 0), x.least(grief, 1),
                x.behind(grief, 0), x.behind(grief, 1)}, -1, -1, -1, -1, -1);
            x.grief(grief, 5 * grief + 1, grief);
            Check.row("there", new long[] {x.fitting(grief), x.least(grief, 0), x.least(grief, 1),
                x.behind(grief, 0), x.behind(grief, 1)}, 63, 2 * grief + 2, grief + 1, 5 * grief + 1, grief);
        }
        beyond("fitting", 0, 5, UNKNOWN, (y, v) -> y.fitting(v));
        beyond("least", 0, 5, UNKNOWN, (y, v) -> y.least(v, 0));
        beyond("behind", 0, 5, UNKNOWN, (y, v) -> y.behind(v, 0));
    }

    /** "OUTSIDE: MARKS 0 to 255, what" */
    private static void marksMade() {
        MireWrestle x = new MireWrestle();
        x.grief(1, 9, 255);
        Check.row("MARKS 0", new long[] {x.make(0, 0), x.make(0, 1)}, 0, 0);
        Check.row("MARKS 255", new long[] {x.make(255, 0), x.make(255, 1)}, 9, 2);
        beyond("make", 0, 255, OUTSIDE, (y, v) -> y.make(v, 0));
    }

    /** "from hour a to hour b"; "OUTSIDE: hours, b below a, what" */
    private static void hoursOfRings() {
        MireWrestle x = new MireWrestle();
        x.coat(2, 0, 23);
        Check.row("0 to 23", new long[] {x.ring(0, 23, 0), x.ring(0, 23, 1)}, 1, 4);
        Check.row("23 to 23", new long[] {x.ring(23, 23, 0), x.ring(23, 23, 1)}, 1, 4);
        Check.row("0 to 0", new long[] {x.ring(0, 0, 0), x.ring(0, 0, 1)}, 1, 1);
        Check.due("1 to 0", x.ring(1, 0, 0), OUTSIDE);
        Check.due("23 to 22", x.ring(23, 22, 0), OUTSIDE);
        Check.due("24 to 24", x.ring(24, 24, 0), OUTSIDE);
        Check.due("-1 to -1", x.ring(-1, -1, 0), OUTSIDE);
        beyond("a", 0, 23, OUTSIDE, (y, v) -> y.ring(v, 23, 0));
        beyond("b", 0, 23, OUTSIDE, (y, v) -> y.ring(0, v, 0));
    }

    /** "UNKNOWN: the HOLD" */
    private static void holdsSeen() {
        for (int hold = 0; hold < 6; hold++) {
            MireWrestle x = new MireWrestle();
            x.hold(hold, 128, 5, 2);
            Check.due("seen", x.seen(hold, true), 1);
            Check.row("SHAPES", new long[] {x.shape(-1), x.shape(0), x.shape(127)}, 128, 128, 255);
        }
        beyond("seen", 0, 5, UNKNOWN, (y, v) -> y.seen(v, true));
    }

    /** "SHAPES: how many (i = -1), the i-th; NONE (i below -1, too)" */
    private static void shapesAsked() {
        MireWrestle x = new MireWrestle();
        for (int i = 0; i < 256; i++) {
            Check.due("the i-th", x.shape(i), i);
        }
        Check.row("beyond", new long[] {x.shape(-1), x.shape(-2), x.shape(256), x.shape(Integer.MIN_VALUE),
            x.shape(Integer.MAX_VALUE)}, 256, -6, -6, -6, -6);
        x.hold(0, 129, 5, 2);
        x.seen(0, true);
        Check.row("fewer", new long[] {x.shape(-1), x.shape(0), x.shape(63), x.shape(64), x.shape(255),
            x.shape(-2)}, 64, 129, 255, -6, -6, -6);
    }

    private static void statesAsked() {
        MireWrestle x = new MireWrestle();
        x.move(0, 9, true);
        Check.row("from 0", new long[] {x.play(0, 0), x.play(0, 1), x.play(0, 2)}, 1, 1, 9);
        Check.row("from 9", new long[] {x.play(9, 0), x.play(9, 1), x.play(9, 2)}, 0, 0, -6);
        x.move(0, 9, false);
        x.move(9, 0, true);
        Check.row("from 0", new long[] {x.play(0, 0), x.play(0, 1), x.play(0, 2)}, 0, 0, -6);
        Check.row("from 9", new long[] {x.play(9, 0), x.play(9, 1), x.play(9, 2)}, 1, 1, 0);
        beyond("play", 0, 9, UNKNOWN, (y, v) -> y.play(v, 0));
    }

    /** "of n men (0 to 17) each is only himself with t tenths (0 to 10), by itself: that just k (0 to n) are" */
    private static void men() {
        MireWrestle x = new MireWrestle();
        for (int t = 0; t <= 10; t++) {
            Check.row("of no men none", new long[] {x.themselves(0, t, 0, 0), x.themselves(0, t, 0, 1)}, 1, 1);
        }
        for (int n = 0; n <= 17; n++) {
            Check.due("t = 0: none, surely", x.themselves(n, 0, 0, 0), 1);
            Check.due("t = 10: all, surely", x.themselves(n, 10, n, 0), 1);
            Check.due("k beyond n", x.themselves(n, 5, n + 1, 0), LOST_OUTSIDE);
            Check.due("k below 0", x.themselves(n, 5, -1, 0), LOST_OUTSIDE);
        }
        Check.row("never: in lowest terms", new long[] {x.themselves(17, 10, 0, 0), x.themselves(17, 10, 0, 1),
            x.themselves(17, 0, 17, 0), x.themselves(17, 0, 17, 1)}, 0, 1, 0, 1);
        Check.row("t = 1", new long[] {x.themselves(1, 1, 1, 0), x.themselves(1, 1, 1, 1)}, 1, 10);
        Check.row("t = 9", new long[] {x.themselves(1, 9, 1, 0), x.themselves(1, 9, 1, 1)}, 9, 10);
        // 9 to the 17th; 10 to the 17th is the greatest lower number
        Check.row("the greatest", new long[] {x.themselves(17, 1, 0, 0), x.themselves(17, 1, 0, 1)},
            16677181699666569L, 100000000000000000L);
        // 24310 times 6 to the 9th times 4 to the 8th is the greatest before it is brought to lowest terms
        Check.row("many ways", new long[] {x.themselves(17, 4, 8, 0), x.themselves(17, 4, 8, 1)},
            24498878976L, 152587890625L);
        beyond("n", 0, 17, LOST_OUTSIDE, (y, v) -> y.themselves(v, 5, 0, 0));
        beyond("t", 0, 10, LOST_OUTSIDE, (y, v) -> y.themselves(5, v, 0, 0));
        beyond("k", 0, 5, LOST_OUTSIDE, (y, v) -> y.themselves(5, 5, v, 0));
        beyond("part", 0, 1, LOST_OUTSIDE, (y, v) -> y.themselves(5, 5, 5, v));
    }

    /** "by a seed (0 to 9999)" */
    private static void seeds() {
        MireWrestle x = new MireWrestle();
        x.grief(0, 80, 0);
        x.grief(1, 40, 0);
        // x becomes 74: y is 9, HOLD 3 on GRIEF 1
        Check.row("seed 0", year(x, 0, 1), 2, 48, 115);
        // x becomes 29092: left over by 8 it is 4, y is 3636, he sits by GRIEF 0
        Check.row("seed 9999", year(x, 9999, 1), 2, 40, 80);
        beyond("seed", 0, 9999, OUTSIDE, (y, v) -> y.year(v, 1, 0));
    }

    /** "of m ACTS (1 to 99)" */
    private static void actsOfYears() {
        MireWrestle x = new MireWrestle();
        x.grief(0, 99, 0);
        for (int hold = 0; hold < 6; hold++) {
            x.hold(hold, 1, 5, 2);
        }
        x.breath(99);
        // x becomes 374, so an hour
        Check.row("1 ACT", year(x, 4, 1), 1, 99, 99);
        // he sits by GRIEF 0 as the 99th
        Check.row("98 ACTS", year(x, 72, 98), 1, 99, 82);
        Check.row("99 ACTS", year(x, 72, 99), 1, 89, 41);
        beyond("m", 1, 99, OUTSIDE, (y, v) -> y.year(0, v, 0));
    }

    private static long[] year(MireWrestle x, int seed, int m) {
        return new long[] {x.year(seed, m, 0), x.year(seed, m, 1), x.year(seed, m, 2)};
    }

    /** "All but the PAD is kept in an IMAGE (0, 1): 1" */
    private static void images() {
        MireWrestle x = new MireWrestle();
        x.breath(10);
        Check.due("image(0)", x.image(0), 1);
        x.breath(11);
        Check.due("image(1)", x.image(1), 1);
        x.breath(12);
        Check.due("restore(0)", x.restore(0), 1);
        Check.due("BREATH", x.told(2), 10);
        Check.due("restore(1)", x.restore(1), 1);
        Check.due("BREATH", x.told(2), 11);
        beyond("image", 0, 1, OUTSIDE, (y, v) -> y.image(v));
        beyond("restore", 0, 1, OUTSIDE, (y, v) -> y.restore(v));
    }

    /** "0 signs, 1 GRIEFS (bits), .. 4 SIGHTS; 10 and a STATE ..; 20 and a COAT ..; 30 and a HOLD ..; 100 and .." */
    private static void told() {
        MireWrestle x = new MireWrestle();
        for (int grief = 0; grief < 6; grief++) {
            x.grief(grief, 90 + grief, 40 + grief);
        }
        x.move(0, 1, true);
        x.move(9, 8, true);
        x.coat(0, 1, 2);
        x.coat(7, 3, 4);
        x.hold(0, 1, 2, 3);
        x.hold(5, 4, 5, 6);
        x.seen(0, true);
        Check.write(x, "..");
        Check.row("the ends of each part", new long[] {x.told(0), x.told(4), x.told(10), x.told(19), x.told(20),
            x.told(27), x.told(30), x.told(35), x.told(100), x.told(101), x.told(150), x.told(151)},
            2, 1, 2, 256, 102, 304, 1023, 4056, 90, 40, 95, 45);
        int[] outside = {Integer.MIN_VALUE, -1, 5, 9, 28, 29, 36, 90, 99, 102, 109, 112, 142, 149, 152, 159, 160, 161,
            Integer.MAX_VALUE};
        for (int what : outside) {
            Check.due("told(" + what + ")", x.told(what), OUTSIDE);
        }
    }

    /** "(what = 0), .. (1)", and so on: each what has an answer of its own. */
    private static void whats() {
        MireWrestle x = new MireWrestle();
        x.grief(2, 11, 6);
        Check.write(x, "..C2C2C2C2D0");
        Check.row("judge", new long[] {x.judge(0), x.judge(1)}, 6, 1);
        Check.write(x, "..C2C2C2C2");
        Check.row("then", Check.then(x), 0, 52, 2, 1, 5, 2);
        Check.row("behind", new long[] {x.behind(2, 0), x.behind(2, 1)}, -6, -6);
        Check.write(x, ".");
        Check.row("behind", new long[] {x.behind(2, 0), x.behind(2, 1)}, 14, 6);
        Check.row("least", new long[] {x.least(2, 0), x.least(2, 1)}, 6, 3);
        Check.row("order", new long[] {x.order(0), x.order(1)}, 33, 2);
        Check.row("make", new long[] {x.make(6, 0), x.make(6, 1)}, 11, 4);
        Check.row("ask", new long[] {x.ask(0), x.ask(1)}, 0, 256);
        beyond("judge", 0, 1, OUTSIDE, (y, v) -> y.judge(v));
        beyond("behind", 0, 1, OUTSIDE, (y, v) -> y.behind(0, v));
        beyond("then", 0, 5, OUTSIDE, (y, v) -> y.then(v));
        beyond("least", 0, 1, OUTSIDE, (y, v) -> y.least(0, v));
        beyond("order", 0, 1, OUTSIDE, (y, v) -> y.order(v));
        beyond("make", 0, 1, OUTSIDE, (y, v) -> y.make(0, v));
        beyond("ring", 0, 1, OUTSIDE, (y, v) -> y.ring(3, 8, v));
        beyond("ask", 0, 1, OUTSIDE, (y, v) -> y.ask(v));
        beyond("play", 0, 2, OUTSIDE, (y, v) -> y.play(0, v));
        beyond("year", 0, 2, OUTSIDE, (y, v) -> y.year(0, 1, v));
    }
}
