/**
 * What ends at 99, at 1 or at 0, what an ACT needs at least, what wraps around; behind the PAD's DAYS, by DONE and in
 * a YEAR. Before each test stands the sentence of the document that it is about.
 */
public final class EndsTest {
    private static final int NONE = -6;

    public static void main(String[] args) {
        signsThatCanStand();
        lettersAndDigits();
        moreMustCome();
        down();
        downInTurn();
        joined();
        sat();
        rested();
        hourOfGriefs();
        hourOfBreath();
        breathForHolds();
        breathForSitting();
        noRestAt99();
        noHourAt99();
        leastReason();
        endsWhenDone();
        endsInYears();
        hoursOfYears();
        lotsOfYears();
        wrapOfYears();
        forceThatIsEnough();
        orderOfEqualOnes();
        eachHoldTried();
        Check.end(EndsTest.class);
    }

    private static MireWrestle with(int strength, int breath) {
        MireWrestle x = new MireWrestle();
        x.grief(0, strength, 3);
        x.breath(breath);
        return x;
    }

    private static void judged(MireWrestle x, String text, int act, int why) {
        Check.write(x, text);
        Check.row("judge of " + text, new long[] {x.judge(0), x.judge(1)}, act, why);
    }

    /** "the place (from 0 on) of the first sign that can not stand there": each sign, at each place of an ACT */
    private static void signsThatCanStand() {
        for (int sign = 33; sign <= 126; sign++) {
            faultWith(sign, "", "ABCDEF", "~.");
            faultWith(sign, "A", "+", "012345_");
            faultWith(sign, "A+", "", "ABCDEF");
            faultWith(sign, ".F5", "ABCDEF", "~.");
        }
    }

    private static void faultWith(int sign, String before, String goOn, String end) {
        MireWrestle x = new MireWrestle();
        Check.write(x, before + (char) sign);
        int due = end.indexOf(sign) >= 0 ? NONE : before.length() + (goOn.indexOf(sign) >= 0 ? 1 : 0);
        Check.due("fault of " + before + (char) sign, x.fault(), due);
    }

    /** "a GRIEF's letter and: a digit 0 to 5 .., + and a GRIEF's letter .., or _" */
    private static void lettersAndDigits() {
        for (int grief = 0; grief < 6; grief++) {
            MireWrestle x = new MireWrestle();
            x.grief(grief, 40, 1);
            x.hold(grief, 1, 7, 3);
            char letter = (char) ('A' + grief);
            Check.write(x, "" + letter + grief);
            Check.row("HOLD " + grief, new long[] {x.behind(grief, 0), x.then(1)}, 33, 47);
            Check.write(x, letter + "_");
            Check.row("he sits by " + letter, new long[] {x.behind(grief, 0), x.then(1)}, 20, 40);
            int other = 5 - grief;
            x.grief(other, 30, 2);
            Check.write(x, letter + "+" + (char) ('A' + other));
            Check.row("one joins " + letter, new long[] {x.behind(grief, 0), x.behind(grief, 1),
                x.behind(other, 0), x.then(0)}, 70, 3, NONE, 1 << grief);
        }
    }

    /** "the number of signs, if more must come" */
    private static void moreMustCome() {
        MireWrestle x = new MireWrestle();
        String[] begun = {"F", "F+", "A0F", "A0F+", "~A", ".A+", "A_B", "A+BC", "A+BC+"};
        for (String text : begun) {
            Check.write(x, text);
            Check.due("fault of " + text, x.fault(), text.length());
        }
    }

    /** "STRENGTH by its FORCE; is none left, it is DOWN: it is no more" */
    private static void down() {
        for (int force = 1; force <= 20; force++) {
            MireWrestle x = with(force, 50);
            x.hold(0, 0, force, 1);
            Check.write(x, "A0");
            Check.row("none is left", Check.then(x), 0, 49, 0, 1, 0, 0);
            Check.due("no more", x.behind(0, 0), NONE);
            x.grief(0, force + 1, 3);
            Check.row("1 is left", Check.then(x), 1, 49, 0, 0, NONE, NONE);
            Check.due("1 is left", x.behind(0, 0), 1);
        }
        MireWrestle weak = with(1, 50);
        weak.hold(0, 0, 20, 1);
        Check.write(weak, "A0");
        Check.row("more FORCE than STRENGTH", Check.then(weak), 0, 49, 0, 1, 0, 0);
        judged(weak, "A0A0", 1, 1);
    }

    /** "how many went DOWN in the text, the first ACT by which one did, which" */
    private static void downInTurn() {
        MireWrestle x = new MireWrestle();
        for (int grief = 0; grief < 6; grief++) {
            x.grief(grief, 5, 0);
        }
        Check.write(x, "F0E0D0C0B0A0");
        Check.row("all, the last one first", Check.then(x), 0, 38, 0, 6, 0, 5);
        Check.write(x, ".F0F0E0");
        Check.row("one, by the ACT that did it", Check.then(x), 31, 49, 1, 1, 2, 5);
        Check.write(x, "~B+AB0C0B0A_");
        Check.row("not to be DONE", Check.then(x), -5, -5, -5, -5, -5, -5);
    }

    /** "the HOLD to try next" */
    private static void eachHoldTried() {
        for (int hold = 0; hold < 6; hold++) {
            MireWrestle x = new MireWrestle();
            x.hold(hold, 32, 5, 2);
            Check.row("by halves", new long[] {x.ask(0), x.ask(1)}, hold, 128);
            x.seen(hold, false);
            Check.row("nothing more by it", new long[] {x.ask(0), x.ask(1), x.shape(-1)}, 0, 128, 128);
        }
    }

    /** "STRENGTH of both, 99 at most, MARKS of both" */
    private static void joined() {
        int[][] rows = {{1, 1, 2}, {49, 49, 98}, {49, 50, 99}, {50, 50, 99}, {98, 1, 99}, {99, 1, 99}, {99, 99, 99}};
        for (int[] row : rows) {
            MireWrestle x = with(row[0], 50);
            x.grief(1, row[1], 5);
            Check.write(x, "A+B");
            Check.row("joined", new long[] {x.behind(0, 0), x.behind(0, 1), x.behind(1, 0)}, row[2], 7, NONE);
        }
    }

    /** "STRENGTH is half, cut, but 1 at least; BREATH is 10 less" */
    private static void sat() {
        int[][] rows = {{1, 1}, {2, 1}, {3, 1}, {4, 2}, {5, 2}, {98, 49}, {99, 49}};
        for (int[] row : rows) {
            MireWrestle x = with(row[0], 99);
            Check.write(x, "A_");
            Check.row("he sits by " + row[0], new long[] {x.behind(0, 0), x.then(1), x.then(3)}, row[1], 89, 0);
        }
        MireWrestle x = with(99, 99);
        Check.write(x, "A_A_A_A_A_A_A_A_A_");
        Check.row("it never is DOWN by that", new long[] {x.behind(0, 0), x.then(1), x.then(3)}, 1, 9, 0);
    }

    /** "(he rests: BREATH is 20 more, 99 at most)" */
    private static void rested() {
        int[][] rows = {{0, 20}, {1, 21}, {78, 98}, {79, 99}, {80, 99}, {98, 99}};
        for (int[] row : rows) {
            MireWrestle x = with(9, row[0]);
            Check.write(x, "~");
            Check.row("he rests at " + row[0], Check.then(x), 1, row[1], 0, 0, NONE, NONE);
        }
    }

    /** "each GRIEF has 3 STRENGTH more, 99 at most" */
    private static void hourOfGriefs() {
        int[][] rows = {{1, 4}, {94, 97}, {95, 98}, {96, 99}, {97, 99}, {98, 99}, {99, 99}};
        for (int[] row : rows) {
            MireWrestle x = with(row[0], 50);
            x.grief(5, row[0], 0);
            Check.write(x, ".");
            Check.row("each has 3 more", new long[] {x.behind(0, 0), x.behind(5, 0), x.then(0)}, row[1], row[1], 33);
        }
    }

    /** "BREATH is 5 more, 99 at most" */
    private static void hourOfBreath() {
        int[][] rows = {{0, 5}, {93, 98}, {94, 99}, {95, 99}, {98, 99}, {99, 99}};
        for (int[] row : rows) {
            MireWrestle x = with(9, row[0]);
            Check.write(x, ".");
            Check.row("an hour at " + row[0], Check.then(x), 1, row[1], 1, 0, NONE, NONE);
        }
    }

    /** "3 there is too little BREATH (a digit, _)" */
    private static void breathForHolds() {
        for (int takes = 1; takes <= 9; takes++) {
            MireWrestle x = with(99, takes);
            x.hold(0, 3, 1, takes);
            Check.write(x, "A0");
            Check.row("just enough", new long[] {x.judge(0), x.judge(1), x.then(1)}, NONE, NONE, 0);
            x.breath(takes - 1);
            Check.row("1 too little", new long[] {x.judge(0), x.judge(1), x.then(1)}, 0, 3, -5);
        }
    }

    private static void breathForSitting() {
        MireWrestle x = with(99, 10);
        Check.write(x, "A_");
        Check.row("just enough", new long[] {x.judge(0), x.judge(1), x.then(1)}, NONE, NONE, 0);
        x.breath(9);
        Check.row("1 too little", new long[] {x.judge(0), x.judge(1), x.then(1)}, 0, 3, -5);
        x.breath(0);
        Check.row("none", new long[] {x.judge(0), x.judge(1), x.then(1)}, 0, 3, -5);
    }

    /** "5 BREATH is 99 (~)" */
    private static void noRestAt99() {
        judged(with(9, 98), "~", NONE, NONE);
        judged(with(9, 99), "~", 0, 5);
        judged(with(9, 98), "~~", 1, 5);
        judged(with(9, 99), ".A0", NONE, NONE);
    }

    private static MireWrestle atHour(int hour) {
        MireWrestle x = new MireWrestle();
        Check.write(x, ".".repeat(Math.min(hour, 60)));
        x.done();
        Check.write(x, ".".repeat(Math.max(hour - 60, 0)));
        x.done();
        Check.due("hour", x.told(3), hour);
        return x;
    }

    /** "6 it is hour 99 (.)" */
    private static void noHourAt99() {
        judged(atHour(98), ".", NONE, NONE);
        judged(atHour(98), "..", 1, 6);
        judged(atHour(99), ".", 0, 6);
        MireWrestle x = atHour(98);
        Check.write(x, ".");
        Check.row("the last hour", new long[] {x.then(2), x.done(), x.told(3)}, 99, 1, 99);
        x.breath(50);
        judged(x, "~.", 1, 6);
        judged(x, "~", NONE, NONE);
        judged(atHour(39), ".".repeat(60), NONE, NONE);
        judged(atHour(40), ".".repeat(60), 59, 6);
    }

    /** "An ACT can not be for the least of these reasons" */
    private static void leastReason() {
        MireWrestle x = with(9, 0);
        x.hold(0, 4, 5, 2);
        judged(x, "B0", 0, 1);
        judged(x, "B_", 0, 1);
        judged(x, "A+B", 0, 1);
        judged(x, "B+A", 0, 1);
        judged(x, "B+B", 0, 1);
        judged(x, "A0", 0, 2);
        judged(x, "A1", 0, 3);
        judged(x, "A_", 0, 3);
        judged(x, "A+A", 0, 4);
        x.breath(99);
        judged(x, "~.", 0, 5);
        judged(x, ".A0", 1, 2);
        x.grief(1, 5, 0);
        judged(x, "A+BA+B", 1, 1);
        judged(x, "A+BB+B", 1, 1);
    }

    /** "DAYS on the PAD are DONE": what ends, ends in fact */
    private static void endsWhenDone() {
        MireWrestle x = with(60, 98);
        x.grief(1, 60, 4);
        x.grief(2, 3, 0);
        x.grief(3, 20, 0);
        x.hold(5, 0, 20, 9);
        Check.write(x, "~A+BC_D5..");
        Check.due("done", x.done(), 6);
        Check.row("told", new long[] {x.told(0), x.told(1), x.told(2), x.told(3), x.told(100), x.told(101),
            x.told(120), x.told(130)}, 0, 5, 90, 2, 99, 7, 7, -2);
        Check.row("no more", new long[] {x.fitting(1), x.behind(3, 0), x.least(3, 0)}, -1, -1, -1);
    }

    private static long[] year(MireWrestle x, int seed, int m) {
        return new long[] {x.year(seed, m, 0), x.year(seed, m, 1), x.year(seed, m, 2)};
    }

    /** "each if that can be": the same ends in a YEAR */
    private static void endsInYears() {
        // x becomes 149, so he rests
        Check.row("BREATH 99 at most", year(with(9, 80), 1, 1), 1, 99, 9);
        Check.row("no rest at 99", year(with(9, 99), 1, 1), 1, 99, 9);
        // x becomes 374, so an hour
        Check.row("both 99 at most", year(with(97, 95), 4, 1), 1, 99, 99);
        // x becomes 29092, y is 3636, so he sits by GRIEF 0
        Check.row("1 at least", year(with(1, 10), 9999, 1), 1, 0, 1);
        Check.row("too little BREATH", year(with(8, 9), 9999, 1), 1, 9, 8);
        // x becomes 299, y is 37, so HOLD 1 on GRIEF 0
        Check.row("DOWN", year(with(5, 2), 3, 1), 0, 0, 0);
        Check.row("1 is left", year(with(6, 2), 3, 1), 1, 0, 1);
        Check.row("too little BREATH", year(with(6, 1), 3, 1), 1, 1, 6);
        MireWrestle x = with(6, 50);
        x.hold(1, 4, 5, 2);
        Check.row("it does not FIT", year(x, 3, 1), 1, 50, 6);
    }

    /** "from all as it is": from the hour that it is, too */
    private static void hoursOfYears() {
        MireWrestle x = atHour(98);
        x.breath(9);
        Check.row("the last hour", year(x, 4, 1), 0, 14, 0);
        Check.due("not in fact", x.told(3), 98);
        x = atHour(99);
        x.breath(9);
        Check.row("no hour more", year(x, 4, 1), 0, 9, 0);
    }

    /** "by x left over by 8, ..: 0, 1, 2, 3 HOLD .. on GRIEF .., 4 he sits .., 5 he rests, 6, 7 an hour" */
    private static void lotsOfYears() {
        // a seed, what x is left over by 8 then, HOLD and GRIEF
        int[][] holds = {{965, 0, 0}, {1808, 5, 5}, {949, 0, 5}, {1824, 5, 0}, {1835, 0, 0}, {45, 5, 5}, {1819, 0, 5},
            {61, 5, 0}, {72, 0, 0}, {915, 5, 5}, {56, 0, 5}, {931, 5, 0}, {942, 0, 0}, {1785, 5, 5}, {926, 0, 5},
            {1801, 5, 0}};
        for (int[] row : holds) {
            MireWrestle x = new MireWrestle();
            x.grief(row[2], 50, 0);
            x.hold(row[1], 0, 11, 7);
            Check.row("a HOLD by seed " + row[0], year(x, row[0], 1), 1, 43, 39);
        }
        int[][] sits = {{1748, 0}, {873, 1}, {14, 2}, {1756, 3}, {881, 4}, {6, 5}};
        for (int[] row : sits) {
            MireWrestle x = new MireWrestle();
            x.grief(row[1], 50, 0);
            Check.row("he sits by seed " + row[0], year(x, row[0], 1), 1, 40, 25);
        }
        Check.row("he rests", year(with(50, 50), 1, 1), 1, 70, 50);
        Check.row("an hour by 6", year(with(50, 50), 4, 1), 1, 55, 53);
        Check.row("an hour by 7", year(with(50, 50), 7, 1), 1, 55, 53);
    }

    /** "x becomes (75 x and 74) left over by 65537" */
    private static void wrapOfYears() {
        MireWrestle x = new MireWrestle();
        x.grief(0, 50, 0);
        x.grief(1, 40, 0);
        // 75 times 872 and 74 is 65474, not yet left over: y is 8184, HOLD 0 on GRIEF 2
        Check.row("the last below it", year(x, 872, 1), 2, 50, 90);
        x.grief(2, 30, 0);
        Check.row("the last below it", year(x, 872, 1), 3, 48, 115);
        // 75 times 873 and 74 is 65549, so x is 12: he sits by GRIEF 1
        Check.row("the first beyond it", year(x, 873, 1), 3, 40, 100);
        // 75 times 874 and 74 is 65624, so x is 87: an hour
        Check.row("the next", year(x, 874, 1), 3, 55, 129);
        // then 75 times 87 and 74 is 6599: an hour
        Check.row("and on", year(x, 874, 2), 3, 60, 138);
    }

    /** "as much FORCE together as its STRENGTH at least" */
    private static void forceThatIsEnough() {
        MireWrestle x = with(20, 50);
        x.hold(0, 0, 20, 7);
        x.hold(1, 0, 7, 3);
        for (int hold = 2; hold < 6; hold++) {
            x.hold(hold, 128, 20, 1);
        }
        Check.row("just as much", new long[] {x.least(0, 0), x.least(0, 1)}, 7, 1);
        x.grief(0, 21, 3);
        Check.row("1 more", new long[] {x.least(0, 0), x.least(0, 1)}, 9, 3);
        x.grief(0, 22, 3);
        Check.row("2 more, by both", new long[] {x.least(0, 0), x.least(0, 1)}, 10, 2);
        x.grief(0, 1, 3);
        Check.row("the least STRENGTH", new long[] {x.least(0, 0), x.least(0, 1)}, 3, 1);
    }

    /** "which is first, the least by which it is as little"; "least as bits of as little"; "the least" */
    private static void orderOfEqualOnes() {
        MireWrestle x = new MireWrestle();
        x.grief(5, 10, 1);
        x.grief(3, 10, 1);
        x.grief(4, 5, 2);
        // 10 for 2 hours is as 5 for 1
        Check.row("ORDER", new long[] {x.order(0), x.order(1)}, 10 * 2 + 10 * 4 + 5 * 5, 3);
        Check.row("MAKE", new long[] {x.make(1, 0), x.make(1, 1)}, 10, 8);
        x.coat(6, 1, 2);
        x.coat(4, 1, 2);
        Check.row("RING", new long[] {x.ring(1, 2, 0), x.ring(1, 2, 1)}, 1, 16);
        x.hold(5, 1, 5, 2);
        x.hold(2, 8, 5, 2);
        Check.row("ASK", new long[] {x.ask(0), x.ask(1)}, 2, 128);
        x.move(4, 9, true);
        x.move(4, 7, true);
        Check.row("PLAY", new long[] {x.play(4, 0), x.play(4, 1), x.play(4, 2)}, 1, 1, 7);
    }
}
