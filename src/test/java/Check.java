/** Counts the answers that are not as due; ends the test with exit code 1 if there was one. */
final class Check {
    private static int calls = 0;
    private static int wrong = 0;

    private Check() {
    }

    /** A call of the class. */
    interface Call {
        long on(MireWrestle x);
    }

    /** A call of the class in which one number is still open. */
    interface OpenCall {
        long on(MireWrestle x, int number);
    }

    static void due(String call, long got, long want) {
        calls++;
        if (got != want) {
            wrong++;
            System.out.println(call + " answered " + got + ", due is " + want);
        }
    }

    /** Answers in a row, as one line of a test. */
    static void row(String call, long[] got, long... want) {
        due(call + ": how many answers", got.length, want.length);
        for (int i = 0; i < got.length && i < want.length; i++) {
            due(call + " [" + i + "]", got[i], want[i]);
        }
    }

    static void write(MireWrestle x, String text) {
        x.wipe();
        for (int i = 0; i < text.length(); i++) {
            due("say of " + text, x.say(text.charAt(i)), i + 1);
        }
    }

    static long[] then(MireWrestle x) {
        return new long[] {x.then(0), x.then(1), x.then(2), x.then(3), x.then(4), x.then(5)};
    }

    /** All that told() tells but how many signs the PAD has. */
    static String told(MireWrestle x) {
        StringBuilder text = new StringBuilder();
        append(text, x, 1, 4);
        append(text, x, 10, 19);
        append(text, x, 20, 27);
        append(text, x, 30, 35);
        for (int grief = 0; grief < 6; grief++) {
            append(text, x, 100 + 10 * grief, 101 + 10 * grief);
        }
        return text.toString();
    }

    private static void append(StringBuilder text, MireWrestle x, int first, int last) {
        for (int what = first; what <= last; what++) {
            text.append(x.told(what)).append(' ');
        }
    }

    static void same(String call, String got, String want) {
        calls++;
        if (!got.equals(want)) {
            wrong++;
            System.out.println(call + " changed\n  " + want + "\nto\n  " + got);
        }
    }

    static void end(Class<?> test) {
        System.out.println(test.getName() + ": " + calls + " answers, " + wrong + " not as due");
        if (wrong != 0) {
            System.exit(1);
        }
    }
}
