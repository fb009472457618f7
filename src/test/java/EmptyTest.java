/** What is empty: no GRIEFS, an empty PAD, no SIGHTS, no MOVES, no MARKS, no men; and what becomes empty again. */
public final class EmptyTest {
    private static final int NONE = -6, UNKNOWN = -1, STATE = -3, NO = -5;

    public static void main(String[] args) {
        noGriefs();
        noGriefsMore();
        noGriefsInYears();
        emptyPad();
        emptiedPad();
        noSights();
        nothingFits();
        noMoves();
        noMovesMore();
        noMarksGripped();
        noMarksOnGriefs();
        noMarksMade();
        noMarksMadeOfGriefs();
        noHoldFits();
        noneWithHolds();
        coatsAtFirst();
        noCoats();
        noImages();
        imageOfNothing();
        noBreath();
        nobodyDown();
        Check.end(EmptyTest.class);
    }

    private static void isWithoutGriefs(MireWrestle x) {
        Check.due("GRIEFS", x.told(1), 0);
        for (int grief = 0; grief < 6; grief++) {
            Check.row("of GRIEF " + grief, new long[] {x.told(100 + 10 * grief), x.told(101 + 10 * grief),
                x.fitting(grief), x.least(grief, 0), x.behind(grief, 0)}, -2, -2, -1, -1, -1);
        }
        Check.row("ORDER", new long[] {x.order(0), x.order(1)}, 0, NONE);
        Check.row("MAKE", new long[] {x.make(0, 0), x.make(0, 1), x.make(1, 0), x.make(1, 1), x.make(255, 0)},
            0, 0, NONE, NONE, NONE);
    }

    /** "No GRIEFS." */
    private static void noGriefs() {
        MireWrestle x = new MireWrestle();
        isWithoutGriefs(x);
        Check.row("BEHIND of all", Check.then(x), 0, 50, 0, 0, NONE, NONE);
        for (String text : new String[] {"A0", "F5", "A_", "A+B", "A+A"}) {
            Check.write(x, text);
            Check.row("judge of " + text, new long[] {x.judge(0), x.judge(1)}, 0, 1);
        }
        Check.due("the first one", x.grief(3, 1, 0), 1);
    }

    /** "it is DOWN: it is no more" */
    private static void noGriefsMore() {
        MireWrestle x = new MireWrestle();
        x.grief(0, 5, 7);
        x.grief(1, 5, 7);
        Check.row("ORDER before", new long[] {x.order(0), x.order(1)}, 15, 0);
        Check.write(x, "A+BA0A0");
        Check.due("done", x.done(), 3);
        isWithoutGriefs(x);
        Check.due("the first one anew", x.grief(0, 9, 9), 1);
        Check.row("told", new long[] {x.told(1), x.told(100), x.told(101)}, 1, 9, 9);
    }

    /** "how many GRIEFS are there; BREATH; STRENGTH in all" */
    private static void noGriefsInYears() {
        MireWrestle x = new MireWrestle();
        // x becomes 74: HOLD 3 on GRIEF 1, which can not be
        Check.row("a HOLD", new long[] {x.year(0, 1, 0), x.year(0, 1, 1), x.year(0, 1, 2)}, 0, 50, 0);
        // x becomes 524: he sits by GRIEF 5, which can not be
        Check.row("he sits", new long[] {x.year(6, 1, 0), x.year(6, 1, 1), x.year(6, 1, 2)}, 0, 50, 0);
        // x becomes 374: an hour
        Check.row("an hour", new long[] {x.year(4, 1, 0), x.year(4, 1, 1), x.year(4, 1, 2)}, 0, 55, 0);
        x.grief(1, 5, 0);
        Check.row("one DOWN", new long[] {x.year(0, 1, 0), x.year(0, 1, 1), x.year(0, 1, 2)}, 0, 48, 0);
        Check.due("not in fact", x.told(1), 2);
    }

    /** "(an empty PAD has none)" */
    private static void emptyPad() {
        MireWrestle x = new MireWrestle();
        x.grief(2, 30, 6);
        Check.row("asked", new long[] {x.told(0), x.fault(), x.judge(0), x.judge(1)}, 0, NONE, NONE, NONE);
        Check.row("BEHIND", Check.then(x), 4, 50, 0, 0, NONE, NONE);
        Check.row("BEHIND of one", new long[] {x.behind(2, 0), x.behind(2, 1)}, 30, 6);
        Check.due("DONE", x.done(), 0);
        Check.due("wipe", x.wipe(), 0);
        Check.row("told", new long[] {x.told(1), x.told(2), x.told(3), x.told(120)}, 4, 50, 0, 30);
    }

    /** "Signs go: how many there were."; "(it is empty then)" */
    private static void emptiedPad() {
        MireWrestle x = new MireWrestle();
        Check.write(x, "A0!");
        Check.row("wipe", new long[] {x.wipe(), x.wipe(), x.told(0), x.fault()}, 3, 0, 0, NONE);
        Check.due("a first sign anew", x.say('~'), 1);
        Check.row("DONE", new long[] {x.done(), x.told(0), x.fault(), x.done(), x.wipe()}, 1, 0, NONE, 0, 0);
        Check.due("a first sign anew", x.say('A'), 1);
        Check.due("the signs before it are gone", x.fault(), 1);
        Check.write(x, ".A0");
        Check.row("an ACT that can not be", new long[] {x.judge(0), x.judge(1), x.done()}, 1, 1, NO);
        x.wipe();
        Check.row("none on an empty PAD", new long[] {x.judge(0), x.judge(1), x.done()}, NONE, NONE, 0);
    }

    /** "A SHAPE (0 to 255) is not known." */
    private static void noSights() {
        MireWrestle x = new MireWrestle();
        Check.row("none", new long[] {x.told(4), x.forget(), x.shape(-1), x.shape(0), x.shape(255), x.shape(256)},
            0, 0, 256, 0, 255, NONE);
        Check.row("ASK", new long[] {x.ask(0), x.ask(1)}, 0, 256);
        x.hold(0, 3, 5, 2);
        x.seen(0, true);
        x.seen(0, true);
        Check.row("forgotten", new long[] {x.forget(), x.forget(), x.told(4), x.shape(-1), x.shape(255)},
            2, 0, 0, 256, 255);
        Check.due("a first SIGHT anew", x.seen(0, false), 1);
        Check.due("the SIGHTS before it are gone", x.shape(-1), 192);
    }

    /** "NONE: nothing fits" */
    private static void nothingFits() {
        MireWrestle x = new MireWrestle();
        x.seen(0, false);
        Check.row("SHAPES", new long[] {x.shape(-1), x.shape(0), x.shape(1), x.shape(255), x.shape(-2)},
            0, NONE, NONE, NONE, NONE);
        Check.row("ASK", new long[] {x.ask(0), x.ask(1)}, NONE, NONE);
        x.hold(0, 255, 5, 2);
        Check.row("as it GRIPS when that is asked", new long[] {x.shape(-1), x.shape(254), x.shape(255)},
            255, 254, NONE);
        x.seen(0, true);
        Check.row("it FITS and it does not", new long[] {x.shape(-1), x.shape(0), x.ask(0), x.ask(1)},
            0, NONE, NONE, NONE);
    }

    /** "(none at first)"; "who can not has lost" */
    private static void noMoves() {
        MireWrestle x = new MireWrestle();
        for (int state = 0; state < 10; state++) {
            Check.row("of STATE " + state, new long[] {x.told(10 + state), x.play(state, 0), x.play(state, 1),
                x.play(state, 2)}, 0, 0, 0, NONE);
        }
        Check.due("none, as before", x.move(4, 5, false), 0);
    }

    /** "A MOVE leads from a STATE to another one (is true), or none: how many there are." */
    private static void noMovesMore() {
        MireWrestle x = new MireWrestle();
        x.move(4, 5, true);
        x.move(5, 4, true);
        Check.row("for ever", new long[] {x.play(4, 0), x.play(4, 1), x.play(4, 2)}, 2, NONE, NONE);
        Check.due("one is left", x.move(5, 4, false), 1);
        Check.due("none is left", x.move(4, 5, false), 0);
        Check.due("none, as before", x.move(4, 5, false), 0);
        Check.row("lost at once", new long[] {x.play(4, 0), x.play(4, 1), x.play(4, 2)}, 0, 0, NONE);
    }

    /** "each GRIPS some MARKS (bits; none at first)": it FITS each GRIEF */
    private static void noMarksGripped() {
        MireWrestle x = new MireWrestle();
        x.grief(0, 10, 0);
        x.grief(1, 10, 255);
        Check.row("FITS", new long[] {x.fitting(0), x.fitting(1)}, 63, 63);
        x.seen(3, true);
        Check.due("and each SHAPE", x.shape(-1), 256);
    }

    private static void noMarksOnGriefs() {
        MireWrestle x = new MireWrestle();
        x.grief(0, 10, 0);
        for (int hold = 0; hold < 6; hold++) {
            x.hold(hold, hold == 4 ? 0 : 1 << hold, 5, 2);
        }
        Check.due("only what GRIPS none FITS", x.fitting(0), 16);
        Check.write(x, "A0");
        Check.row("judge", new long[] {x.judge(0), x.judge(1)}, 0, 2);
        Check.write(x, "A4");
        Check.row("judge", new long[] {x.judge(0), x.judge(1)}, NONE, NONE);
        Check.due("MARKS", x.told(101), 0);
    }

    /** "(no MARKS: 0, by no GRIEF: bits 0)" */
    private static void noMarksMade() {
        MireWrestle x = new MireWrestle();
        Check.row("none there", new long[] {x.make(0, 0), x.make(0, 1)}, 0, 0);
        x.grief(0, 1, 0);
        Check.row("one without MARKS", new long[] {x.make(0, 0), x.make(0, 1)}, 0, 0);
        x.grief(1, 1, 255);
        Check.row("one with all", new long[] {x.make(0, 0), x.make(0, 1)}, 0, 0);
    }

    private static void noMarksMadeOfGriefs() {
        MireWrestle x = new MireWrestle();
        x.grief(0, 1, 0);
        x.grief(5, 9, 8);
        Check.row("one without MARKS only adds STRENGTH", new long[] {x.make(8, 0), x.make(8, 1)}, 9, 32);
        Check.row("a MARK that none has", new long[] {x.make(16, 0), x.make(16, 1)}, NONE, NONE);
        Check.row("one that none has alone", new long[] {x.make(24, 0), x.make(24, 1)}, NONE, NONE);
    }

    private static MireWrestle withHoldsThatDoNotFit() {
        MireWrestle x = new MireWrestle();
        for (int hold = 0; hold < 6; hold++) {
            x.hold(hold, 128, 5, 2);
        }
        return x;
    }

    /** "NONE: none FITS" */
    private static void noHoldFits() {
        MireWrestle x = withHoldsThatDoNotFit();
        x.grief(0, 1, 127);
        Check.row("of one", new long[] {x.fitting(0), x.least(0, 0), x.least(0, 1)}, 0, NONE, NONE);
        x.hold(5, 127, 1, 9);
        Check.row("just the last FITS", new long[] {x.fitting(0), x.least(0, 0), x.least(0, 1)}, 32, 9, 1);
    }

    /** "(those for which there is none are left out)"; "(NONE: there are none)" */
    private static void noneWithHolds() {
        MireWrestle x = withHoldsThatDoNotFit();
        x.grief(0, 99, 127);
        x.grief(4, 99, 0);
        Check.row("all are left out", new long[] {x.order(0), x.order(1)}, 0, NONE);
        x.grief(5, 1, 128);
        Check.row("all but one", new long[] {x.order(0), x.order(1)}, 1, 5);
    }

    /** "0 to 0 at first" */
    private static void coatsAtFirst() {
        MireWrestle x = new MireWrestle();
        Check.row("hour 0", new long[] {x.ring(0, 0, 0), x.ring(0, 0, 1)}, 1, 1);
        Check.row("hours 0 and 1", new long[] {x.ring(0, 1, 0), x.ring(0, 1, 1)}, NONE, NONE);
        Check.row("hour 23", new long[] {x.ring(23, 23, 0), x.ring(23, 23, 1)}, NONE, NONE);
    }

    /** "in each hour one of them is held: .. NONE" */
    private static void noCoats() {
        MireWrestle x = new MireWrestle();
        for (int coat = 0; coat < 8; coat++) {
            x.coat(coat, coat < 4 ? 1 : 12, coat < 4 ? 10 : 22);
        }
        Check.row("before all", new long[] {x.ring(0, 1, 0), x.ring(0, 1, 1)}, NONE, NONE);
        Check.row("after all", new long[] {x.ring(22, 23, 0), x.ring(22, 23, 1)}, NONE, NONE);
        Check.row("a gap of one hour", new long[] {x.ring(1, 22, 0), x.ring(1, 22, 1)}, NONE, NONE);
        x.coat(7, 11, 11);
        Check.row("no gap", new long[] {x.ring(1, 22, 0), x.ring(1, 22, 1)}, 3, 145);
    }

    /** "STATE: it was not" */
    private static void noImages() {
        MireWrestle x = new MireWrestle();
        Check.row("none kept", new long[] {x.restore(0), x.restore(1)}, STATE, STATE);
        x.image(1);
        Check.row("one kept", new long[] {x.restore(0), x.restore(1)}, STATE, 1);
        Check.due("nor on another object", new MireWrestle().restore(1), STATE);
    }

    private static void imageOfNothing() {
        MireWrestle x = new MireWrestle();
        String fresh = Check.told(x);
        x.image(0);
        x.grief(0, 9, 9);
        x.move(1, 2, true);
        x.seen(0, false);
        x.coat(0, 5, 9);
        x.hold(0, 1, 1, 1);
        Check.write(x, ".");
        x.done();
        x.restore(0);
        Check.same("restored", Check.told(x), fresh);
        isWithoutGriefs(x);
        Check.row("no SIGHTS", new long[] {x.forget(), x.shape(-1)}, 0, 256);
        Check.row("no MOVES", new long[] {x.play(1, 0), x.move(2, 1, false)}, 0, 0);
    }

    private static void noBreath() {
        MireWrestle x = new MireWrestle();
        x.grief(0, 10, 0);
        x.breath(0);
        Check.row("(BREATH that there is does not matter)", new long[] {x.least(0, 0), x.least(0, 1)}, 4, 2);
        for (String text : new String[] {"A0", "A_"}) {
            Check.write(x, text);
            Check.row("judge of " + text, new long[] {x.judge(0), x.judge(1)}, 0, 3);
        }
        Check.write(x, ".A0~A_");
        Check.row("after an hour", Check.then(x), 1, 13, 1, 0, NONE, NONE);
    }

    /** "the first ACT by which one did, which (NONE)" */
    private static void nobodyDown() {
        MireWrestle x = new MireWrestle();
        x.grief(0, 10, 0);
        x.grief(1, 10, 0);
        Check.write(x, "A+BA_~.A0");
        Check.row("none DOWN, though one joins", Check.then(x), 1, 63, 1, 0, NONE, NONE);
        Check.row("it is no more", new long[] {x.behind(1, 0), x.behind(1, 1)}, NONE, NONE);
        Check.write(x, "A0A0B_");
        Check.row("the first of ACTS and of GRIEFS", Check.then(x), 2, 36, 0, 1, 1, 0);
        Check.due("no more", x.behind(0, 0), NONE);
        x.wipe();
        Check.row("an empty PAD", Check.then(x), 3, 50, 0, 0, NONE, NONE);
        Check.due("of no GRIEF", x.behind(2, 0), UNKNOWN);
    }
}
