/** Promises 1 to 6 and 28: a new object, griefs, holds, breath, coats, moves, told. */
public final class GriefsTest {
    public static void main(String[] args) {
        newObject();
        griefs();
        holds();
        breath();
        coats();
        moves();
        told();
        Check.end(GriefsTest.class);
    }

    private static void newObject() {
        MireWrestle x = new MireWrestle();
        Check.row("new", new long[] {x.told(0), x.told(1), x.told(2), x.told(3), x.told(4)}, 0, 0, 50, 0, 0);
        for (int state = 0; state < 10; state++) {
            Check.due("new told of state", x.told(10 + state), 0);
        }
        for (int coat = 0; coat < 8; coat++) {
            Check.due("new told of coat", x.told(20 + coat), 0);
        }
        for (int hold = 0; hold < 6; hold++) {
            Check.due("new told of hold", x.told(30 + hold), 52);
        }
        for (int grief = 0; grief < 6; grief++) {
            Check.due("new told of grief", x.told(100 + 10 * grief), -2);
            Check.due("new fitting", x.fitting(grief), -1);
        }
        Check.due("new restore", x.restore(0), -3);
        Check.due("new fault", x.fault(), -6);
    }

    private static void griefs() {
        MireWrestle x = new MireWrestle();
        Check.due("grief(5, 1, 255)", x.grief(5, 1, 255), 1);
        Check.due("grief(0, 99, 0)", x.grief(0, 99, 0), 2);
        Check.due("anew", x.grief(5, 7, 9), 2);
        Check.row("told", new long[] {x.told(1), x.told(100), x.told(101), x.told(150), x.told(151)},
            33, 99, 0, 7, 9);
        String before = Check.told(x);
        Check.due("grief(-1, 1, 1)", x.grief(-1, 1, 1), -1);
        Check.due("grief(6, 0, 256)", x.grief(6, 0, 256), -1);
        Check.due("strength 0", x.grief(0, 0, 1), -2);
        Check.due("strength 100", x.grief(0, 100, 1), -2);
        Check.due("shape -1", x.grief(0, 1, -1), -2);
        Check.due("shape 256", x.grief(0, 1, 256), -2);
        Check.same("refused griefs", Check.told(x), before);
    }

    private static void holds() {
        MireWrestle x = new MireWrestle();
        Check.due("hold(5, 255, 20, 9)", x.hold(5, 255, 20, 9), 52);
        Check.due("hold(5, 0, 1, 1)", x.hold(5, 0, 1, 1), 255209);
        Check.due("hold(5, 3, 5, 2)", x.hold(5, 3, 5, 2), 11);
        String before = Check.told(x);
        Check.due("hold -1", x.hold(-1, 0, 1, 1), -1);
        Check.due("hold 6", x.hold(6, 256, 0, 0), -1);
        Check.due("grips -1", x.hold(0, -1, 1, 1), -2);
        Check.due("grips 256", x.hold(0, 256, 1, 1), -2);
        Check.due("force 0", x.hold(0, 1, 0, 1), -2);
        Check.due("force 21", x.hold(0, 1, 21, 1), -2);
        Check.due("takes 0", x.hold(0, 1, 1, 0), -2);
        Check.due("takes 10", x.hold(0, 1, 1, 10), -2);
        Check.same("refused holds", Check.told(x), before);
    }

    private static void breath() {
        MireWrestle x = new MireWrestle();
        Check.due("breath(0)", x.breath(0), 50);
        Check.due("breath(99)", x.breath(99), 0);
        Check.due("breath(100)", x.breath(100), -2);
        Check.due("breath(-1)", x.breath(-1), -2);
        Check.due("breath(1)", x.breath(1), 99);
    }

    private static void coats() {
        MireWrestle x = new MireWrestle();
        Check.due("coat(7, 0, 23)", x.coat(7, 0, 23), 0);
        Check.due("coat(7, 23, 23)", x.coat(7, 23, 23), 23);
        Check.due("coat(7, 5, 6)", x.coat(7, 5, 6), 2323);
        String before = Check.told(x);
        Check.due("coat -1", x.coat(-1, 0, 0), -1);
        Check.due("coat 8", x.coat(8, 24, 0), -1);
        Check.due("a -1", x.coat(7, -1, 0), -2);
        Check.due("b 24", x.coat(7, 0, 24), -2);
        Check.due("b below a", x.coat(7, 5, 4), -2);
        Check.same("refused coats", Check.told(x), before);
    }

    private static void moves() {
        MireWrestle x = new MireWrestle();
        Check.due("move(0, 9, true)", x.move(0, 9, true), 1);
        Check.due("again", x.move(0, 9, true), 1);
        Check.due("back", x.move(9, 0, true), 2);
        Check.due("a third", x.move(0, 3, true), 3);
        Check.due("told(10)", x.told(10), 520);
        Check.due("none", x.move(0, 9, false), 2);
        Check.due("none again", x.move(0, 9, false), 2);
        Check.row("told of states", new long[] {x.told(10), x.told(13), x.told(19)}, 8, 0, 1);
        String before = Check.told(x);
        Check.due("one", x.move(4, 4, true), -1);
        Check.due("from -1", x.move(-1, 4, true), -1);
        Check.due("from 10", x.move(10, 4, true), -1);
        Check.due("to -1", x.move(4, -1, false), -1);
        Check.due("to 10", x.move(4, 10, true), -1);
        Check.same("refused moves", Check.told(x), before);
    }

    private static void told() {
        MireWrestle x = new MireWrestle();
        int[] outside = {Integer.MIN_VALUE, -1, 5, 9, 28, 29, 36, 99, 102, 109, 112, 159, 160, 161, 1000,
            Integer.MAX_VALUE};
        for (int grief = 0; grief < 6; grief++) {
            x.grief(grief, 10 + grief, 20 + grief);
        }
        for (int what : outside) {
            Check.due("told(" + what + ")", x.told(what), -2);
        }
        for (int grief = 0; grief < 6; grief++) {
            Check.due("told strength", x.told(100 + 10 * grief), 10 + grief);
            Check.due("told marks", x.told(101 + 10 * grief), 20 + grief);
        }
        Check.write(x, "~.");
        x.seen(0, true);
        Check.due("told(0)", x.told(0), 2);
        Check.due("told(4)", x.told(4), 1);
    }
}
