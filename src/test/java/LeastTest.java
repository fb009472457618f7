/** Promises 15 to 18: least breath, orders, shapes made together, rings of coats. */
public final class LeastTest {
    public static void main(String[] args) {
        least();
        order();
        orderLeavesOut();
        make();
        ring();
        Check.end(LeastTest.class);
    }

    private static void holdsThatNeverFit(MireWrestle x) {
        for (int hold = 0; hold < 6; hold++) {
            x.hold(hold, 128, 1, 1);
        }
    }

    private static void least() {
        MireWrestle x = new MireWrestle();
        x.grief(0, 99, 1);
        Check.row("as at first", least(x, 0), 40, 20);
        holdsThatNeverFit(x);
        Check.row("none fits", least(x, 0), -6, -6);
        x.hold(0, 0, 1, 9);
        Check.row("the dearest", least(x, 0), 891, 99);
        x.hold(1, 1, 20, 9);
        Check.row("the strongest", least(x, 0), 45, 5);
        x.grief(0, 7, 1);
        x.hold(0, 0, 3, 3);
        x.hold(1, 0, 4, 6);
        Check.row("fewest for as little", least(x, 0), 9, 2);
        x.hold(2, 0, 20, 9);
        Check.row("one alone for as little", least(x, 0), 9, 1);
        x.hold(2, 2, 20, 1);
        Check.row("one that does not fit", least(x, 0), 9, 2);
        x.breath(0);
        Check.row("breath does not matter", least(x, 0), 9, 2);
        Check.row("refused", new long[] {x.least(1, 5), x.least(-1, 0), x.least(6, 0), x.least(0, -1),
            x.least(0, 2)}, -1, -1, -1, -2, -2);
    }

    private static long[] least(MireWrestle x, int grief) {
        return new long[] {x.least(grief, 0), x.least(grief, 1)};
    }

    private static long[] order(MireWrestle x) {
        return new long[] {x.order(0), x.order(1)};
    }

    private static void order() {
        MireWrestle x = new MireWrestle();
        Check.row("there are none", order(x), 0, -6);
        x.grief(3, 10, 0);
        Check.row("one", order(x), 20, 3);
        x.grief(1, 10, 0);
        Check.row("as good", order(x), 60, 1);
        x.hold(0, 1, 20, 2);
        x.grief(5, 99, 1);
        // 99 for 5 hours, then 10 for 7 and 10 for 9
        Check.row("the last first", order(x), 655, 5);
        // 6 for 2 hours bears less by the hour than 10 for 2
        x.grief(1, 6, 0);
        x.grief(5, 1, 0);
        Check.row("three", order(x), 20 + 24 + 5, 3);
        Check.row("refused", new long[] {x.order(-1), x.order(2)}, -2, -2);
    }

    private static void orderLeavesOut() {
        MireWrestle x = new MireWrestle();
        holdsThatNeverFit(x);
        x.grief(0, 99, 1);
        Check.row("none fits", order(x), 0, -6);
        x.hold(4, 2, 5, 1);
        x.grief(2, 6, 2);
        Check.row("one is left out", order(x), 12, 2);
    }

    private static long[] make(MireWrestle x, int marks) {
        return new long[] {x.make(marks, 0), x.make(marks, 1)};
    }

    private static void make() {
        MireWrestle x = new MireWrestle();
        Check.row("no marks, none there", make(x, 0), 0, 0);
        Check.row("none there", make(x, 1), -6, -6);
        x.grief(0, 99, 3);
        x.grief(1, 99, 5);
        x.grief(4, 50, 1);
        Check.row("more than 99", make(x, 7), 198, 3);
        Check.row("a mark too many", make(x, 2), -6, -6);
        Check.row("one alone", make(x, 1), 50, 16);
        x.grief(2, 99, 3);
        Check.row("least bits of as little", make(x, 3), 99, 1);
        x.grief(3, 98, 3);
        Check.row("less, by higher bits", make(x, 3), 98, 8);
        x.grief(5, 1, 0);
        Check.row("no marks, one without", make(x, 0), 0, 0);
        x.grief(5, 1, 255);
        Check.row("all marks", make(x, 255), 1, 32);
        Check.row("refused", new long[] {x.make(-1, 0), x.make(256, 0), x.make(1, -1), x.make(1, 2)},
            -2, -2, -2, -2);
    }

    private static long[] ring(MireWrestle x, int a, int b) {
        return new long[] {x.ring(a, b, 0), x.ring(a, b, 1)};
    }

    private static void ring() {
        MireWrestle x = new MireWrestle();
        Check.row("at first", ring(x, 0, 0), 1, 1);
        Check.row("at first, later", ring(x, 1, 1), -6, -6);
        for (int coat = 0; coat < 8; coat++) {
            x.coat(coat, 3 * coat, 3 * coat + 2);
        }
        Check.row("all", ring(x, 0, 23), 8, 255);
        Check.row("some", ring(x, 5, 9), 3, 14);
        x.coat(7, 0, 11);
        Check.row("a long one", ring(x, 0, 12), 2, 144);
        x.coat(4, 11, 15);
        Check.row("one that laps over", ring(x, 0, 12), 2, 144);
        Check.row("a gap", ring(x, 0, 23), -6, -6);
        x.coat(0, 21, 23);
        Check.row("no gap", ring(x, 0, 23), 5, 241);
        Check.row("last hour", ring(x, 23, 23), 1, 1);
        Check.row("as few, least bits", ring(x, 3, 5), 1, 2);
        Check.row("refused", new long[] {x.ring(-1, 0, 0), x.ring(0, 24, 0), x.ring(5, 4, 0), x.ring(0, 0, -1),
            x.ring(0, 0, 2)}, -2, -2, -2, -2, -2);
    }
}
