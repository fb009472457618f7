/** Promises 7 to 14: the pad, its fault, days judged and done, what is left behind them, what fits. */
public final class DaysTest {
    public static void main(String[] args) {
        pad();
        faults();
        reasons();
        whichReasonFirst();
        acts();
        bounds();
        hours();
        done();
        refusals();
        fitting();
        Check.end(DaysTest.class);
    }

    private static MireWrestle withTwo() {
        MireWrestle x = new MireWrestle();
        x.grief(0, 20, 3);
        x.grief(1, 10, 4);
        return x;
    }

    private static void pad() {
        MireWrestle x = new MireWrestle();
        Check.due("say(33)", x.say(33), 1);
        Check.due("say(126)", x.say(126), 2);
        Check.due("say(32)", x.say(32), -2);
        Check.due("say(127)", x.say(127), -2);
        Check.due("wipe", x.wipe(), 2);
        Check.due("wipe again", x.wipe(), 0);
        Check.write(x, ".".repeat(60));
        Check.due("say a 61st", x.say('.'), -4);
        Check.due("say outside on a full pad", x.say(10), -2);
        Check.due("told(0)", x.told(0), 60);
    }

    private static void faults() {
        MireWrestle x = new MireWrestle();
        fault(x, "", -6);
        fault(x, "~.A0F5C_D+EA+A", -6);
        fault(x, "A", 1);
        fault(x, "A+", 2);
        fault(x, "..A", 3);
        fault(x, "A6", 1);
        fault(x, "A/", 1);
        fault(x, "A~", 1);
        fault(x, "AB", 1);
        fault(x, "A+0", 2);
        fault(x, "A+G", 2);
        fault(x, "A+@", 2);
        fault(x, "A0_", 2);
        fault(x, "@", 0);
        fault(x, "G0", 0);
        fault(x, "0", 0);
        fault(x, "+", 0);
        fault(x, "a0", 0);
        fault(x, "~.x~", 2);
        fault(x, ".".repeat(59) + "A", 60);
        fault(x, "A0".repeat(30), -6);
    }

    private static void fault(MireWrestle x, String text, int want) {
        Check.write(x, text);
        Check.due("fault of " + text, x.fault(), want);
        if (want != -6) {
            Check.due("judge(0) of " + text, x.judge(0), -5);
            Check.due("judge(1) of " + text, x.judge(1), -5);
            Check.due("then(0) of " + text, x.then(0), -5);
            Check.due("done of " + text, x.done(), -5);
            Check.due("left of " + text, x.told(0), text.length());
        }
    }

    private static void judged(MireWrestle x, String text, int act, int why) {
        Check.write(x, text);
        Check.due("judge(0) of " + text, x.judge(0), act);
        Check.due("judge(1) of " + text, x.judge(1), why);
        if (why != -6) {
            Check.due("done of " + text, x.done(), -5);
            Check.due("behind of " + text, x.behind(0, 0), x.fitting(0) == -1 ? -1 : -5);
            Check.row("then of " + text, Check.then(x), -5, -5, -5, -5, -5, -5);
        }
    }

    private static void reasons() {
        MireWrestle x = withTwo();
        x.hold(3, 4, 5, 2);
        judged(x, "A0", -6, -6);
        judged(x, "C0", 0, 1);
        judged(x, "C_", 0, 1);
        judged(x, "A+C", 0, 1);
        judged(x, "C+A", 0, 1);
        judged(x, "A3", 0, 2);
        judged(x, "B3", -6, -6);
        judged(x, "A+A", 0, 4);
        x.breath(1);
        judged(x, "A0", 0, 3);
        x.breath(2);
        judged(x, "A0A0", 1, 3);
        x.breath(9);
        judged(x, "A_", 0, 3);
        x.breath(10);
        judged(x, "A_A_", 1, 3);
        x.breath(99);
        judged(x, "~", 0, 5);
        x.breath(98);
        judged(x, "~~", 1, 5);
        x.breath(50);
        judged(x, "B0.B0B0B0", 4, 1);
        judged(x, "A+BB0", 1, 1);
    }

    private static void whichReasonFirst() {
        MireWrestle x = withTwo();
        x.hold(0, 128, 1, 9);
        x.breath(0);
        judged(x, "A0", 0, 2);
        judged(x, "C0", 0, 1);
        judged(x, "C_", 0, 1);
        judged(x, "C+C", 0, 1);
        judged(x, "B+B", 0, 4);
    }

    private static MireWrestle withStrongHold() {
        MireWrestle x = withTwo();
        x.hold(1, 1, 12, 5);
        return x;
    }

    private static void acts() {
        behind(withStrongHold(), "", 3, 50, 0, 0, -6, -6);
        behind(withStrongHold(), "~B0B0A0", 1, 64, 0, 1, 2, 1);
        behind(withStrongHold(), "A1A1~", 2, 60, 0, 1, 1, 0);
        MireWrestle x = withStrongHold();
        behind(x, "A1B0A1B0.", 0, 41, 1, 2, 2, 0);
        Check.row("behind of none", of(x), -6, -6, -6, -6);
        behind(x, "B0A_.", 3, 43, 1, 0, -6, -6);
        Check.row("behind of both", of(x), 13, 3, 8, 4);
        behind(x, "A+BA_", 1, 40, 0, 0, -6, -6);
        Check.row("behind of joined", of(x), 15, 7, -6, -6);
        behind(x, "B+A", 2, 50, 0, 0, -6, -6);
        Check.row("behind of joined the other way", of(x), -6, -6, 30, 7);
    }

    private static void behind(MireWrestle x, String text, long... want) {
        Check.write(x, text);
        String before = Check.told(x);
        Check.row("then of " + text, Check.then(x), want);
        Check.same("then of " + text, Check.told(x), before);
    }

    private static long[] of(MireWrestle x) {
        return new long[] {x.behind(0, 0), x.behind(0, 1), x.behind(1, 0), x.behind(1, 1)};
    }

    private static void bounds() {
        MireWrestle x = withTwo();
        x.grief(0, 60, 1);
        x.grief(1, 40, 2);
        strengthAfter(x, "A+B", 99);
        x.grief(1, 38, 2);
        strengthAfter(x, "A+B", 98);
        x.grief(0, 97, 1);
        strengthAfter(x, ".", 99);
        x.grief(0, 96, 1);
        strengthAfter(x, ".", 99);
        x.grief(0, 95, 1);
        strengthAfter(x, ".", 98);
        x.grief(0, 99, 1);
        strengthAfter(x, "A_", 49);
        x.grief(0, 3, 1);
        strengthAfter(x, "A_", 1);
        strengthAfter(x, "A_A_", 1);
        x.grief(0, 6, 1);
        strengthAfter(x, "A0", 1);
        x.grief(0, 5, 1);
        strengthAfter(x, "A0", -6);
        x.grief(0, 4, 1);
        strengthAfter(x, "A0", -6);
        breathAfter(x, 80, "~", 99);
        breathAfter(x, 79, "~", 99);
        breathAfter(x, 78, "~", 98);
        breathAfter(x, 95, ".", 99);
        breathAfter(x, 93, ".", 98);
        breathAfter(x, 99, ".", 99);
        breathAfter(x, 10, "A_", 0);
        breathAfter(x, 2, "A0", 0);
    }

    private static void strengthAfter(MireWrestle x, String text, int want) {
        Check.write(x, text);
        Check.due("behind(0, 0) of " + text, x.behind(0, 0), want);
    }

    private static void breathAfter(MireWrestle x, int breath, String text, int want) {
        x.breath(breath);
        Check.write(x, text);
        Check.due("then(1) of " + text + " from " + breath, x.then(1), want);
    }

    private static void hours() {
        MireWrestle x = new MireWrestle();
        Check.write(x, ".".repeat(60));
        Check.due("sixty hours", x.done(), 60);
        Check.due("hour", x.told(3), 60);
        judged(x, ".".repeat(40), 39, 6);
        Check.write(x, ".".repeat(39));
        Check.due("till hour 99", x.done(), 39);
        Check.due("hour", x.told(3), 99);
        judged(x, ".", 0, 6);
        x.breath(79);
        judged(x, "~.", 1, 6);
        judged(x, "~~", 1, 5);
    }

    private static void done() {
        MireWrestle x = withTwo();
        Check.due("an empty pad", x.done(), 0);
        x.hold(1, 1, 12, 5);
        Check.write(x, "A1A1.B_");
        Check.due("done", x.done(), 4);
        Check.row("told", new long[] {x.told(0), x.told(1), x.told(2), x.told(3), x.told(110), x.told(111)},
            0, 2, 35, 1, 6, 4);
        Check.due("one that is down", x.told(100), -2);
        Check.due("one that is down", x.fitting(0), -1);
        Check.due("one that is down", x.behind(0, 0), -1);
        Check.due("there anew", x.grief(0, 1, 1), 2);
        Check.write(x, "B+A");
        Check.due("done", x.done(), 1);
        Check.row("joined", new long[] {x.told(1), x.told(110), x.told(111)}, 2, 7, 5);
    }

    private static void refusals() {
        MireWrestle x = withTwo();
        Check.write(x, "A");
        Check.due("judge(-1)", x.judge(-1), -2);
        Check.due("judge(2)", x.judge(2), -2);
        Check.due("then(-1)", x.then(-1), -2);
        Check.due("then(6)", x.then(6), -2);
        Check.due("behind(-1, 9)", x.behind(-1, 9), -1);
        Check.due("behind(6, 0)", x.behind(6, 0), -1);
        Check.due("behind(2, 0)", x.behind(2, 0), -1);
        Check.due("behind(0, -1)", x.behind(0, -1), -2);
        Check.due("behind(0, 2)", x.behind(0, 2), -2);
        Check.due("behind(0, 1)", x.behind(0, 1), -5);
        Check.write(x, "C0");
        Check.due("then(6)", x.then(6), -2);
        Check.due("behind(0, 2)", x.behind(0, 2), -2);
        Check.due("behind(2, 0)", x.behind(2, 0), -1);
        Check.due("behind(0, 0)", x.behind(0, 0), -5);
    }

    private static void fitting() {
        MireWrestle x = withTwo();
        x.grief(2, 5, 0);
        x.hold(1, 1, 5, 2);
        x.hold(2, 3, 5, 2);
        x.hold(3, 7, 5, 2);
        x.hold(4, 4, 5, 2);
        x.hold(5, 128, 5, 2);
        Check.row("fitting", new long[] {x.fitting(0), x.fitting(1), x.fitting(2), x.fitting(3), x.fitting(6),
            x.fitting(-1)}, 7, 17, 1, -1, -1, -1);
    }
}
