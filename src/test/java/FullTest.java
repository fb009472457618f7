/** What is full: the PAD, the SIGHTS; and all GRIEFS, HOLDS, COATS and MOVES that there can be. */
public final class FullTest {
    private static final int NONE = -6, OUTSIDE = -2, FULL = -4, NO = -5;

    public static void main(String[] args) {
        pad();
        padAnew();
        padOfActs();
        padWithFaults();
        padStaysFull();
        sights();
        sightsAllCount();
        sightsAnew();
        sightsRestored();
        allGriefs();
        allGriefsOrdered();
        allHolds();
        allCoats();
        allMoves();
        longestGame();
        Check.end(FullTest.class);
    }

    /** "(60 SIGNS at most, ..)"; "A sign more: how many. OUTSIDE; FULL." */
    private static void pad() {
        MireWrestle x = new MireWrestle();
        for (int i = 1; i <= 60; i++) {
            Check.due("say", x.say('~'), i);
        }
        for (int i = 0; i < 3; i++) {
            Check.row("one more", new long[] {x.say('~'), x.say(33), x.say(126)}, FULL, FULL, FULL);
        }
        Check.row("one that is no sign", new long[] {x.say(32), x.say(127)}, OUTSIDE, OUTSIDE);
        Check.row("full", new long[] {x.told(0), x.fault()}, 60, NONE);
    }

    private static void padAnew() {
        MireWrestle x = new MireWrestle();
        Check.write(x, ".".repeat(60));
        Check.due("wipe", x.wipe(), 60);
        Check.due("say", x.say('A'), 1);
        Check.due("fault", x.fault(), 1);
        Check.write(x, ".".repeat(60));
        Check.due("done", x.done(), 60);
        Check.due("say", x.say('A'), 1);
    }

    /** "ACTS" of one, two and three signs to the last sign */
    private static void padOfActs() {
        MireWrestle x = new MireWrestle();
        x.grief(0, 99, 0);
        x.hold(0, 0, 1, 1);
        Check.write(x, ".".repeat(60));
        Check.row("sixty hours", Check.then(x), 1, 99, 60, 0, NONE, NONE);
        Check.write(x, "A0".repeat(30));
        Check.row("thirty HOLDS", Check.then(x), 1, 20, 0, 0, NONE, NONE);
        Check.due("STRENGTH", x.behind(0, 0), 69);
        Check.due("done", x.done(), 30);
        x.breath(99);
        Check.write(x, "A0".repeat(29) + ".~");
        Check.row("the last rests", new long[] {x.judge(0), x.judge(1), x.then(1)}, NONE, NONE, 95);
        x.grief(1, 1, 1);
        Check.write(x, ".".repeat(57) + "A+B");
        Check.row("the last joins", Check.then(x), 1, 99, 57, 0, NONE, NONE);
        Check.write(x, ".".repeat(57) + "A+C");
        Check.row("the last can not be", new long[] {x.judge(0), x.judge(1), x.done()}, 57, 1, NO);
        Check.write(x, ".".repeat(58) + "A_");
        Check.row("he sits last", new long[] {x.judge(0), x.behind(0, 0)}, NONE, 49);
    }

    /** "the number of signs, if more must come" */
    private static void padWithFaults() {
        MireWrestle x = new MireWrestle();
        Check.write(x, ".".repeat(59) + "A");
        Check.row("more must come", new long[] {x.fault(), x.say('0'), x.judge(0), x.done()}, 60, FULL, NO, NO);
        Check.write(x, ".".repeat(58) + "A+");
        Check.row("more must come", new long[] {x.fault(), x.say('B'), x.judge(0), x.done()}, 60, FULL, NO, NO);
        Check.write(x, ".".repeat(59) + "0");
        Check.row("the last can not stand there", new long[] {x.fault(), x.judge(0), x.done()}, 59, NO, NO);
        Check.write(x, "!" + ".".repeat(59));
        Check.row("the first can not stand there", new long[] {x.fault(), x.judge(0), x.done()}, 0, NO, NO);
        Check.due("left", x.told(0), 60);
    }

    /** "All but the PAD is kept in an IMAGE" */
    private static void padStaysFull() {
        MireWrestle x = new MireWrestle();
        x.image(0);
        Check.write(x, "~".repeat(60));
        Check.due("restore", x.restore(0), 1);
        Check.row("full", new long[] {x.told(0), x.say('~')}, 60, FULL);
    }

    /** "SIGHTS, 8 at most" */
    private static void sights() {
        MireWrestle x = new MireWrestle();
        for (int i = 1; i <= 8; i++) {
            Check.due("seen", x.seen(5, true), i);
        }
        for (int hold = 0; hold < 6; hold++) {
            Check.row("one more", new long[] {x.seen(hold, true), x.seen(hold, false)}, FULL, FULL);
        }
        Check.row("full", new long[] {x.told(4), x.shape(-1)}, 8, 256);
    }

    private static void sightsAllCount() {
        for (int i = 0; i < 8; i++) {
            MireWrestle x = new MireWrestle();
            x.hold(1, 64, 5, 2);
            for (int k = 0; k < 8; k++) {
                x.seen(k == i ? 1 : 0, true);
            }
            Check.row("by one of eight", new long[] {x.shape(-1), x.shape(0)}, 128, 64);
        }
    }

    private static void sightsAnew() {
        MireWrestle x = new MireWrestle();
        for (int i = 0; i < 8; i++) {
            x.seen(0, true);
        }
        Check.due("forget", x.forget(), 8);
        for (int i = 1; i <= 8; i++) {
            Check.due("seen anew", x.seen(0, true), i);
        }
        Check.due("one more", x.seen(0, true), FULL);
    }

    private static void sightsRestored() {
        MireWrestle x = new MireWrestle();
        for (int i = 0; i < 8; i++) {
            x.hold(i % 6, 1 << i % 6, 5, 2);
            x.seen(i % 6, true);
        }
        x.image(1);
        x.forget();
        x.restore(1);
        Check.row("full again", new long[] {x.told(4), x.seen(0, true), x.shape(-1), x.shape(0)}, 8, FULL, 4, 63);
    }

    private static MireWrestle withAllGriefs() {
        MireWrestle x = new MireWrestle();
        for (int grief = 0; grief < 6; grief++) {
            Check.due("grief", x.grief(grief, 99, 1 << grief), grief + 1);
        }
        return x;
    }

    private static void allGriefs() {
        MireWrestle x = withAllGriefs();
        Check.row("GRIEFS", new long[] {x.told(1), x.grief(0, 99, 1), x.grief(5, 99, 32)}, 63, 6, 6);
        // STRENGTH of all of them is nowhere said to end at 99
        Check.row("MAKE", new long[] {x.make(63, 0), x.make(63, 1), x.make(127, 0)}, 594, 63, NONE);
        // x becomes 374, so an hour
        Check.row("YEAR", new long[] {x.year(4, 1, 0), x.year(4, 1, 1), x.year(4, 1, 2)}, 6, 55, 594);
        Check.write(x, "F+AF+BF+CF+DF+E");
        Check.row("all join one", Check.then(x), 32, 50, 0, 0, NONE, NONE);
        Check.row("that one", new long[] {x.behind(5, 0), x.behind(5, 1)}, 99, 63);
    }

    private static void allGriefsOrdered() {
        MireWrestle x = withAllGriefs();
        // each for 20 hours: 99 times 20, 40, .. and 120
        Check.row("ORDER", new long[] {x.order(0), x.order(1)}, 99 * 20 * 21, 0);
        x.hold(0, 32, 20, 2);
        // the last one for 5 hours
        Check.row("the last first", new long[] {x.order(0), x.order(1)}, 99 * (6 * 5 + 20 * 15), 5);
        for (int hold = 0; hold < 6; hold++) {
            x.hold(hold, 0, 1, 9);
        }
        // 99 hours each, the most that there can be
        Check.row("the most", new long[] {x.order(0), x.order(1)}, 99 * 99 * 21, 0);
    }

    private static void allHolds() {
        MireWrestle x = new MireWrestle();
        x.grief(3, 99, 255);
        for (int hold = 0; hold < 6; hold++) {
            x.hold(hold, 255, hold == 5 ? 20 : 1, 9);
        }
        Check.row("the last", new long[] {x.fitting(3), x.least(3, 0), x.least(3, 1)}, 63, 45, 5);
        x.hold(5, 0, 1, 9);
        Check.row("the weakest and dearest", new long[] {x.least(3, 0), x.least(3, 1)}, 891, 99);
        x.hold(5, 0, 1, 1);
        Check.row("the weakest", new long[] {x.least(3, 0), x.least(3, 1)}, 99, 99);
    }

    private static void allCoats() {
        MireWrestle x = new MireWrestle();
        for (int coat = 0; coat < 8; coat++) {
            x.coat(coat, 3 * coat, 3 * coat + 2);
        }
        Check.row("all are needed", new long[] {x.ring(0, 23, 0), x.ring(0, 23, 1)}, 8, 255);
        for (int coat = 0; coat < 8; coat++) {
            x.coat(coat, 0, 23);
        }
        Check.row("any will do", new long[] {x.ring(0, 23, 0), x.ring(0, 23, 1)}, 1, 1);
    }

    private static void allMoves() {
        MireWrestle x = new MireWrestle();
        for (int i = 0; i < 90; i++) {
            int from = i / 9;
            int to = (from + 1 + i % 9) % 10;
            Check.due("move", x.move(from, to, true), i + 1);
        }
        Check.due("one that is there", x.move(9, 0, true), 90);
        for (int state = 0; state < 10; state++) {
            Check.row("for ever", new long[] {x.told(10 + state), x.play(state, 0), x.play(state, 1),
                x.play(state, 2)}, 1023 - (1 << state), 2, NONE, NONE);
        }
        Check.due("one less", x.move(9, 0, false), 89);
    }

    /** The longest that can be lost: nine MOVES over ten STATES. */
    private static void longestGame() {
        MireWrestle x = new MireWrestle();
        for (int state = 0; state < 9; state++) {
            x.move(state, state + 1, true);
        }
        for (int state = 0; state < 10; state++) {
            int left = 9 - state;
            Check.row("of STATE " + state, new long[] {x.play(state, 0), x.play(state, 1), x.play(state, 2)},
                left % 2, left, left % 2 == 1 ? state + 1 : NONE);
        }
    }
}
