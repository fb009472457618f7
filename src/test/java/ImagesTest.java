/** Promises 26 and 27: images. */
public final class ImagesTest {
    public static void main(String[] args) {
        refusals();
        allButThePad();
        twoApart();
        Check.end(ImagesTest.class);
    }

    private static void refusals() {
        MireWrestle x = new MireWrestle();
        Check.row("image", new long[] {x.image(-1), x.image(2)}, -2, -2);
        Check.row("restore", new long[] {x.restore(-1), x.restore(2), x.restore(0), x.restore(1)},
            -2, -2, -3, -3);
        Check.due("image(1)", x.image(1), 1);
        Check.row("only that one", new long[] {x.restore(0), x.restore(1)}, -3, 1);
    }

    private static void change(MireWrestle x) {
        x.grief(0, 40, 7);
        x.grief(4, 3, 128);
        x.hold(2, 1, 9, 3);
        x.coat(6, 2, 20);
        x.move(9, 1, true);
        x.seen(2, false);
        x.seen(1, true);
        Check.write(x, "..A_");
        x.done();
        x.breath(17);
    }

    /** All but the PAD. */
    private static String told(MireWrestle x) {
        StringBuilder text = new StringBuilder(Check.told(x));
        for (int i = -1; i < 32; i++) {
            text.append(x.shape(i)).append(' ');
        }
        return text.toString();
    }

    private static void allButThePad() {
        MireWrestle x = new MireWrestle();
        change(x);
        String kept = told(x);
        Check.due("image(0)", x.image(0), 1);
        Check.write(x, "~A0");
        x.grief(0, 1, 0);
        x.grief(1, 2, 0);
        x.hold(2, 2, 2, 2);
        x.hold(1, 128, 2, 2);
        x.coat(6, 0, 0);
        x.move(9, 1, false);
        x.move(3, 1, true);
        x.forget();
        x.seen(5, true);
        x.breath(90);
        x.done();
        Check.write(x, "..");
        x.done();
        Check.write(x, "~A0");
        Check.due("restore(0)", x.restore(0), 1);
        Check.same("all but the pad", told(x), kept);
        Check.due("the pad stays", x.told(0), 3);
        Check.due("the pad stays", x.fault(), -6);
        Check.due("and again", x.restore(0), 1);
        Check.same("all but the pad", told(x), kept);
    }

    private static void twoApart() {
        MireWrestle x = new MireWrestle();
        String fresh = told(x);
        x.image(0);
        change(x);
        String changed = told(x);
        x.image(1);
        x.restore(0);
        Check.same("the first", told(x), fresh);
        x.grief(3, 3, 3);
        x.restore(1);
        Check.same("the second", told(x), changed);
        x.image(0);
        x.restore(0);
        Check.same("the first, kept anew", told(x), changed);
    }
}
