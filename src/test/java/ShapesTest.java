/** Promises 19 to 25: sights, shapes, the hold to try next, the game, chances, years. */
public final class ShapesTest {
    public static void main(String[] args) {
        sights();
        shapes();
        ask();
        play();
        longGame();
        themselves();
        year();
        yearBounds();
        Check.end(ShapesTest.class);
    }

    private static void sights() {
        MireWrestle x = new MireWrestle();
        Check.due("forget none", x.forget(), 0);
        for (int i = 1; i <= 8; i++) {
            Check.due("seen", x.seen(i % 6, true), i);
        }
        Check.due("a ninth", x.seen(0, false), -4);
        Check.due("no such hold, full", x.seen(6, true), -1);
        Check.due("no such hold", x.seen(-1, true), -1);
        Check.due("told(4)", x.told(4), 8);
        Check.due("forget", x.forget(), 8);
        Check.due("told(4)", x.told(4), 0);
        Check.due("seen anew", x.seen(0, true), 1);
    }

    private static void shapes() {
        MireWrestle x = new MireWrestle();
        Check.row("all", new long[] {x.shape(-1), x.shape(0), x.shape(255), x.shape(256), x.shape(-2)},
            256, 0, 255, -6, -6);
        x.hold(0, 5, 1, 1);
        x.hold(1, 2, 1, 1);
        x.seen(0, true);
        x.seen(1, false);
        Check.row("some", new long[] {x.shape(-1), x.shape(0), x.shape(1), x.shape(2), x.shape(31), x.shape(32)},
            32, 5, 13, 21, 253, -6);
        x.hold(1, 254, 1, 1);
        Check.row("as it grips now", new long[] {x.shape(-1), x.shape(0), x.shape(1)}, 63, 5, 7);
        x.hold(1, 5, 1, 1);
        Check.row("nothing", new long[] {x.shape(-1), x.shape(0), x.shape(-7), x.shape(Integer.MIN_VALUE),
            x.shape(Integer.MAX_VALUE)}, 0, -6, -6, -6, -6);
        Check.row("nothing to ask", new long[] {x.ask(0), x.ask(1), x.ask(2), x.ask(-1)}, -6, -6, -2, -2);
    }

    private static void ask() {
        MireWrestle x = new MireWrestle();
        Check.row("all alike", new long[] {x.ask(0), x.ask(1)}, 0, 256);
        x.hold(4, 3, 1, 1);
        Check.row("a quarter fits", new long[] {x.ask(0), x.ask(1)}, 4, 192);
        x.hold(5, 8, 1, 1);
        x.hold(3, 8, 1, 1);
        Check.row("a half, the least hold", new long[] {x.ask(0), x.ask(1)}, 3, 128);
        x.seen(3, true);
        Check.row("then another", new long[] {x.ask(0), x.ask(1)}, 4, 96);
    }

    private static long[] play(MireWrestle x, int state) {
        return new long[] {x.play(state, 0), x.play(state, 1), x.play(state, 2)};
    }

    private static void play() {
        MireWrestle x = new MireWrestle();
        x.move(3, 2, true);
        x.move(3, 1, true);
        Check.row("the least", play(x, 3), 1, 1, 1);
        x.move(1, 3, true);
        Check.row("the other", play(x, 3), 1, 1, 2);
        Check.row("lost late", play(x, 1), 0, 2, -6);
        x.move(2, 4, true);
        x.move(4, 2, true);
        Check.row("for ever", play(x, 3), 2, -6, -6);
        Check.row("for ever", play(x, 4), 2, -6, -6);
        x.move(4, 5, true);
        Check.row("4 wins", play(x, 4), 1, 1, 5);
        Check.row("2 loses", play(x, 2), 0, 2, -6);
        Check.row("3 wins later", play(x, 3), 1, 3, 2);
        x.move(3, 5, true);
        Check.row("3 wins sooner, by a higher state", play(x, 3), 1, 1, 5);
        Check.row("1 loses", play(x, 1), 0, 2, -6);
        x.move(1, 4, true);
        x.move(4, 5, false);
        Check.row("1 has a way out", play(x, 1), 2, -6, -6);
        Check.row("refused", new long[] {x.play(-1, 9), x.play(10, 0), x.play(0, -1), x.play(0, 3)},
            -1, -1, -2, -2);
    }

    private static void longGame() {
        MireWrestle x = new MireWrestle();
        for (int state = 9; state > 0; state--) {
            x.move(state, state - 1, true);
        }
        Check.row("nine moves", play(x, 9), 1, 9, 8);
        Check.row("eight moves", play(x, 8), 0, 8, -6);
        // 7 loses late by 6, sooner by 1
        x.move(8, 1, true);
        Check.row("as late as he can", play(x, 8), 0, 8, -6);
        x.move(9, 2, true);
        Check.row("as soon as he can", play(x, 9), 1, 3, 2);
    }

    private static long[] chance(int n, int t, int k) {
        MireWrestle x = new MireWrestle();
        return new long[] {x.themselves(n, t, k, 0), x.themselves(n, t, k, 1)};
    }

    private static void themselves() {
        Check.row("no man", chance(0, 10, 0), 1, 1);
        Check.row("never", chance(17, 0, 1), 0, 1);
        Check.row("never", chance(17, 10, 16), 0, 1);
        Check.row("always", chance(17, 10, 17), 1, 1);
        Check.row("always none", chance(17, 0, 0), 1, 1);
        Check.row("4 of 8", chance(8, 5, 4), 35, 128);
        Check.row("1 of 2 by 2", chance(2, 2, 1), 8, 25);
        Check.row("9 to the 17th", chance(17, 9, 17), 16677181699666569L, 100000000000000000L);
        Check.row("one of 17 by 1", chance(17, 1, 1), 31501343210481297L, 100000000000000000L);
        long refused = -1000000000000000002L;
        Check.row("refused n", chance(18, 1, 1), refused, refused);
        Check.row("refused n", chance(-1, 1, 0), refused, refused);
        Check.row("refused t", chance(1, 11, 1), refused, refused);
        Check.row("refused t", chance(1, -1, 1), refused, refused);
        Check.row("refused k", chance(5, 1, 6), refused, refused);
        Check.row("refused k", chance(5, 1, -1), refused, refused);
        MireWrestle x = new MireWrestle();
        Check.row("refused part", new long[] {x.themselves(1, 1, 1, -1), x.themselves(1, 1, 1, 2)},
            refused, refused);
    }

    private static long[] year(MireWrestle x, int seed, int m) {
        return new long[] {x.year(seed, m, 0), x.year(seed, m, 1), x.year(seed, m, 2)};
    }

    private static void year() {
        MireWrestle x = new MireWrestle();
        x.grief(0, 20, 3);
        x.grief(1, 10, 4);
        Check.write(x, "~");
        String before = Check.told(x);
        // x is 74, so y is 9: HOLD 3 on GRIEF 1; then x is 5624, y 703: HOLD 1 on GRIEF 3
        Check.row("an act", year(x, 0, 1), 2, 48, 25);
        Check.row("one that can not be", year(x, 0, 2), 2, 48, 25);
        // x is 299, y is 37: HOLD 1 on GRIEF 0
        Check.row("another seed", year(x, 3, 1), 2, 48, 25);
        Check.same("year", Check.told(x), before);
        Check.row("refused", new long[] {x.year(-1, 1, 0), x.year(10000, 1, 0), x.year(0, 0, 0),
            x.year(0, 100, 0), x.year(0, 1, -1), x.year(0, 1, 3)}, -2, -2, -2, -2, -2, -2);
    }

    private static void yearBounds() {
        MireWrestle x = new MireWrestle();
        x.breath(99);
        // x is 149, so left over by 8 it is 5: he rests, which can not be at 99
        Check.row("no rest at 99", year(x, 1, 1), 0, 99, 0);
        x.breath(0);
        Check.row("a rest", year(x, 1, 1), 0, 20, 0);
        x.grief(5, 50, 0);
        // x is 524, y is 65, so he sits by GRIEF 5
        x.breath(10);
        Check.row("he sits", year(x, 6, 1), 1, 0, 25);
        x.breath(9);
        Check.row("he can not sit", year(x, 6, 1), 1, 9, 50);
        // x is 374, so an hour
        Check.row("an hour", year(x, 4, 1), 1, 14, 53);
        Check.write(x, ".".repeat(60));
        x.done();
        Check.write(x, ".".repeat(39));
        x.done();
        x.breath(9);
        x.grief(5, 50, 0);
        Check.row("no hour at 99", year(x, 4, 1), 1, 9, 50);
    }
}
