/** Objects to try calls on, and all that can be asked of one, so that a change can not hide. */
enum Scenes {
    FRESH, CAN_BE_DONE, HAS_FAULT, CAN_NOT_BE, FULL, FULL_WITH_FAULT;

    MireWrestle make() {
        MireWrestle x = new MireWrestle();
        if (this == FRESH) {
            return x;
        }
        putSome(x);
        switch (this) {
            case CAN_BE_DONE: Check.write(x, "A1B_~.A+B"); break;
            case HAS_FAULT: Check.write(x, "A1.A"); break;
            case CAN_NOT_BE: Check.write(x, "A1.D_"); break;
            case FULL: Check.write(x, ".".repeat(57) + "B+A"); break;
            default: Check.write(x, ".".repeat(58) + "B+"); break;
        }
        for (int i = 3; i < 8 && ordinal() >= FULL.ordinal(); i++) {
            x.seen(1, true);
        }
        return x;
    }

    /** GRIEFS A, B, C and F, and something of all else; IMAGE 0 is kept and no more as it is now, IMAGE 1 is not. */
    private static void putSome(MireWrestle x) {
        x.grief(0, 20, 3);
        x.grief(1, 10, 4);
        x.grief(5, 99, 255);
        x.hold(1, 1, 12, 5);
        x.hold(2, 4, 9, 9);
        x.hold(5, 255, 1, 1);
        x.coat(0, 3, 8);
        x.coat(1, 7, 12);
        x.coat(7, 13, 23);
        int[] way = {0, 1, 2, 0, 8, 9, 8, 4, 5};
        for (int i = 1; i < way.length; i++) {
            x.move(way[i - 1], way[i], true);
        }
        x.seen(1, true);
        x.seen(2, false);
        x.image(0);
        x.grief(2, 50, 6);
        x.hold(3, 2, 20, 1);
        x.coat(6, 0, 4);
        x.move(2, 3, true);
        x.seen(3, true);
        Check.write(x, "..");
        x.done();
        x.breath(72);
    }

    /** It uses the object up: at the end each IMAGE is restored. */
    static String everything(MireWrestle x) {
        StringBuilder text = new StringBuilder(Check.told(x));
        days(x, text);
        reckoned(x, text);
        note(text, x.restore(0), x.told(0));
        text.append(Check.told(x));
        days(x, text);
        note(text, x.shape(-1), x.shape(0), x.restore(1), x.told(0));
        text.append(Check.told(x));
        return text.toString();
    }

    private static void days(MireWrestle x, StringBuilder text) {
        note(text, x.told(0), x.fault(), x.judge(0), x.judge(1));
        note(text, Check.then(x));
        for (int grief = 0; grief < 6; grief++) {
            note(text, x.behind(grief, 0), x.behind(grief, 1), x.fitting(grief));
        }
    }

    private static void reckoned(MireWrestle x, StringBuilder text) {
        for (int what = 0; what < 2; what++) {
            note(text, x.least(0, what), x.least(5, what), x.order(what), x.make(7, what), x.ring(3, 8, what),
                x.ask(what));
        }
        for (int i = -1; i < 12; i++) {
            note(text, x.shape(i));
        }
        for (int state = 0; state < 10; state++) {
            note(text, x.play(state, 0), x.play(state, 1), x.play(state, 2));
        }
        note(text, x.year(72, 99, 0), x.year(72, 99, 1), x.year(72, 99, 2));
    }

    private static void note(StringBuilder text, long... answers) {
        for (long answer : answers) {
            text.append(answer).append(' ');
        }
    }
}
