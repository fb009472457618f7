/** The parish mire, as ../shared/DOC.md tells it; words in capitals are the document's. */
public final class MireWrestle {
    public static final int NONE = -6, UNKNOWN = -1, OUTSIDE = -2, STATE = -3, FULL = -4, NO = -5;
    public static final long LOST = -1000000000000000000L;

    private static final int GRIEFS = 6;
    private static final int HOLDS = 6;
    private static final int COATS = 8;
    private static final int STATES = 10;
    private static final int SIGHTS = 8;
    private static final int SIGNS = 60;
    private static final int SHAPES = 256;
    private static final int IMAGES = 2;
    private static final int LAST_HOUR = 23;
    /** STRENGTH, BREATH and the hour all end here. */
    private static final int MOST = 99;
    /** More than any price and any row of GRIEFS can come to. */
    private static final int ENDLESS = 1000000000;

    private final Mire mire = new Mire();
    private final Pad pad = new Pad();
    private final Days days = new Days();
    private final Prices prices = new Prices();
    private final Orders orders = new Orders();
    private final Shapes shapes = new Shapes();
    private final Game game = new Game();
    /** One that was never kept is null. */
    private final Mire[] images = new Mire[IMAGES];

    public MireWrestle() {
    }

    // ---- 1 griefs, holds, coats, mud, days

    public int grief(int grief, int strength, int shape) {
        if (!isFrom(grief, 0, GRIEFS - 1)) {
            return UNKNOWN;
        }
        if (!isFrom(strength, 1, MOST) || !isSetOfMarks(shape)) {
            return OUTSIDE;
        }
        mire.strength[grief] = strength;
        mire.marks[grief] = shape;
        return Integer.bitCount(mire.griefsThere());
    }

    public int hold(int hold, int grips, int force, int takes) {
        if (!isHold(hold)) {
            return UNKNOWN;
        }
        if (!isSetOfMarks(grips) || !isFrom(force, 1, 20) || !isFrom(takes, 1, 9)) {
            return OUTSIDE;
        }
        int before = mire.holdAsNumber(hold);
        mire.grips[hold] = grips;
        mire.force[hold] = force;
        mire.takes[hold] = takes;
        return before;
    }

    public int breath(int v) {
        if (!isFrom(v, 0, MOST)) {
            return OUTSIDE;
        }
        int before = mire.breath;
        mire.breath = v;
        return before;
    }

    public int coat(int coat, int a, int b) {
        if (!isFrom(coat, 0, COATS - 1)) {
            return UNKNOWN;
        }
        if (!areHours(a, b)) {
            return OUTSIDE;
        }
        int before = mire.coatAsNumber(coat);
        mire.first[coat] = a;
        mire.last[coat] = b;
        return before;
    }

    public int move(int from, int to, boolean is) {
        if (!isState(from) || !isState(to) || from == to) {
            return UNKNOWN;
        }
        if (is) {
            mire.leads[from] |= 1 << to;
        } else {
            mire.leads[from] &= ~(1 << to);
        }
        return mire.countMoves();
    }

    public int say(int sign) {
        if (!isFrom(sign, 33, 126)) {
            return OUTSIDE;
        }
        return pad.write(sign) ? pad.count : FULL;
    }

    public int wipe() {
        int before = pad.count;
        pad.count = 0;
        return before;
    }

    public int fault() {
        return pad.findFault();
    }

    // ---- 2 days

    public int judge(int what) {
        if (!isFrom(what, 0, 1)) {
            return OUTSIDE;
        }
        if (pad.findFault() != NONE) {
            return NO;
        }
        days.run(pad, mire);
        if (days.why == 0) {
            return NONE;
        }
        return what == 0 ? days.acts : days.why;
    }

    public int done() {
        if (!tryDays()) {
            return NO;
        }
        mire.become(days.behind);
        pad.count = 0;
        return days.acts;
    }

    public int behind(int grief, int what) {
        if (!mire.isThere(grief)) {
            return UNKNOWN;
        }
        if (!isFrom(what, 0, 1)) {
            return OUTSIDE;
        }
        if (!tryDays()) {
            return NO;
        }
        return days.behind.isThere(grief) ? days.behind.griefPart(grief, what) : NONE;
    }

    public int then(int what) {
        if (!isFrom(what, 0, 5)) {
            return OUTSIDE;
        }
        if (!tryDays()) {
            return NO;
        }
        switch (what) {
            case 0: return days.behind.griefsThere();
            case 1: return days.behind.breath;
            case 2: return days.behind.hour;
            case 3: return days.down;
            case 4: return days.firstDownAct;
            default: return days.firstDown;
        }
    }

    public int fitting(int grief) {
        return mire.isThere(grief) ? mire.holdsThatFit(grief) : UNKNOWN;
    }

    // ---- 3 least breath, orders, shapes, rings

    public int least(int grief, int what) {
        if (!mire.isThere(grief)) {
            return UNKNOWN;
        }
        if (!isFrom(what, 0, 1)) {
            return OUTSIDE;
        }
        int price = prices.priceOf(mire, grief);
        if (price == NONE) {
            return NONE;
        }
        return what == 0 ? price / Prices.BREATH : price % Prices.BREATH;
    }

    public int order(int what) {
        if (!isFrom(what, 0, 1)) {
            return OUTSIDE;
        }
        orders.work(mire);
        return what == 0 ? orders.leastBorne() : orders.firstTaken(mire);
    }

    public int make(int marks, int what) {
        if (!isSetOfMarks(marks) || !isFrom(what, 0, 1)) {
            return OUTSIDE;
        }
        int set = mire.leastSetWith(marks);
        return set == NONE || what == 1 ? set : mire.strengthOf(set);
    }

    public int ring(int a, int b, int what) {
        if (!areHours(a, b) || !isFrom(what, 0, 1)) {
            return OUTSIDE;
        }
        int set = mire.fewestCoatsFor(hoursFrom(a, b));
        return set == NONE || what == 1 ? set : Integer.bitCount(set);
    }

    // ---- 4 shapes, mud, themselves

    public int seen(int hold, boolean fits) {
        if (!isHold(hold)) {
            return UNKNOWN;
        }
        return mire.addSight(hold, fits) ? mire.sights : FULL;
    }

    public int forget() {
        int before = mire.sights;
        mire.sights = 0;
        return before;
    }

    public int shape(int i) {
        shapes.find(mire);
        return i == -1 ? shapes.count : shapes.shapeAt(i);
    }

    public int ask(int what) {
        if (!isFrom(what, 0, 1)) {
            return OUTSIDE;
        }
        shapes.find(mire);
        int hold = shapes.holdToTry(mire);
        return hold == NONE || what == 0 ? hold : shapes.mostLeftBy(mire.grips[hold]);
    }

    public int play(int state, int what) {
        if (!isState(state)) {
            return UNKNOWN;
        }
        if (!isFrom(what, 0, 2)) {
            return OUTSIDE;
        }
        game.solve(mire.leads);
        switch (what) {
            case 0: return game.who[state];
            case 1: return game.moves[state];
            default: return game.firstMove(mire.leads, state);
        }
    }

    public long themselves(int n, int t, int k, int part) {
        if (!isFrom(n, 0, 17) || !isFrom(t, 0, 10) || !isFrom(k, 0, n) || !isFrom(part, 0, 1)) {
            return LOST + OUTSIDE;
        }
        long upper = choose(n, k) * power(t, k) * power(10 - t, n - k);
        long lower = power(10, n);
        // 10 to the n has no divisors but twos and fives, n of each.
        for (int i = 0; i < n; i++) {
            if (upper % 2 == 0 && lower % 2 == 0) {
                upper /= 2;
                lower /= 2;
            }
            if (upper % 5 == 0 && lower % 5 == 0) {
                upper /= 5;
                lower /= 5;
            }
        }
        return part == 0 ? upper : lower;
    }

    public int year(int seed, int m, int what) {
        if (!isFrom(seed, 0, 9999) || !isFrom(m, 1, 99) || !isFrom(what, 0, 2)) {
            return OUTSIDE;
        }
        days.runYear(seed, m, mire);
        int there = days.behind.griefsThere();
        switch (what) {
            case 0: return Integer.bitCount(there);
            case 1: return days.behind.breath;
            default: return days.behind.strengthOf(there);
        }
    }

    public int image(int n) {
        if (!isFrom(n, 0, IMAGES - 1)) {
            return OUTSIDE;
        }
        if (images[n] == null) {
            images[n] = new Mire();
        }
        images[n].become(mire);
        return 1;
    }

    public int restore(int n) {
        if (!isFrom(n, 0, IMAGES - 1)) {
            return OUTSIDE;
        }
        if (images[n] == null) {
            return STATE;
        }
        mire.become(images[n]);
        return 1;
    }

    public int told(int what) {
        if (isFrom(what, 10, 10 + STATES - 1)) {
            return mire.leads[what - 10];
        }
        if (isFrom(what, 20, 20 + COATS - 1)) {
            return mire.coatAsNumber(what - 20);
        }
        if (isFrom(what, 30, 30 + HOLDS - 1)) {
            return mire.holdAsNumber(what - 30);
        }
        if (what >= 100) {
            return toldOfGrief((what - 100) / 10, (what - 100) % 10);
        }
        switch (what) {
            case 0: return pad.count;
            case 1: return mire.griefsThere();
            case 2: return mire.breath;
            case 3: return mire.hour;
            case 4: return mire.sights;
            default: return OUTSIDE;
        }
    }

    private int toldOfGrief(int grief, int part) {
        return mire.isThere(grief) && isFrom(part, 0, 1) ? mire.griefPart(grief, part) : OUTSIDE;
    }

    /** Runs the PAD on a copy: whether there is no FAULT and each ACT can be. */
    private boolean tryDays() {
        if (pad.findFault() != NONE) {
            return false;
        }
        days.run(pad, mire);
        return days.why == 0;
    }

    private static boolean isFrom(int number, int low, int high) {
        return number >= low && number <= high;
    }

    private static boolean isHold(int number) {
        return isFrom(number, 0, HOLDS - 1);
    }

    private static boolean isState(int number) {
        return isFrom(number, 0, STATES - 1);
    }

    private static boolean isSetOfMarks(int number) {
        return isFrom(number, 0, SHAPES - 1);
    }

    private static boolean areHours(int a, int b) {
        return isFrom(a, 0, LAST_HOUR) && isFrom(b, a, LAST_HOUR);
    }

    private static boolean isIn(int set, int member) {
        return (set >> member & 1) == 1;
    }

    private static boolean isWithin(int part, int whole) {
        return (part & ~whole) == 0;
    }

    private static int hoursFrom(int a, int b) {
        return (1 << b + 1) - (1 << a);
    }

    private static long choose(int n, int k) {
        long ways = 1;
        for (int i = 1; i <= k; i++) {
            ways = ways * (n - k + i) / i;
        }
        return ways;
    }

    private static long power(long base, int exponent) {
        long product = 1;
        for (int i = 0; i < exponent; i++) {
            product *= base;
        }
        return product;
    }

    private static void copyRow(int[] from, int[] to) {
        System.arraycopy(from, 0, to, 0, Math.min(from.length, to.length));
    }

    /** All that an IMAGE keeps. */
    private static final class Mire {
        /** A GRIEF that is not there has none. */
        final int[] strength = new int[GRIEFS];
        final int[] marks = new int[GRIEFS];
        final int[] grips = new int[HOLDS];
        final int[] force = new int[HOLDS];
        final int[] takes = new int[HOLDS];
        final int[] first = new int[COATS];
        final int[] last = new int[COATS];
        final int[] leads = new int[STATES];
        /** Sights name the HOLD, as what it GRIPS counts only when that is asked. */
        final int[] sightHold = new int[SIGHTS];
        final boolean[] sightFits = new boolean[SIGHTS];
        int sights = 0;
        int breath = 50;
        int hour = 0;

        Mire() {
            for (int hold = 0; hold < HOLDS; hold++) {
                force[hold] = 5;
                takes[hold] = 2;
            }
        }

        void become(Mire other) {
            copyRow(other.strength, strength);
            copyRow(other.marks, marks);
            copyRow(other.grips, grips);
            copyRow(other.force, force);
            copyRow(other.takes, takes);
            copyRow(other.first, first);
            copyRow(other.last, last);
            copyRow(other.leads, leads);
            copyRow(other.sightHold, sightHold);
            for (int i = 0; i < SIGHTS; i++) {
                sightFits[i] = other.sightFits[i];
            }
            sights = other.sights;
            breath = other.breath;
            hour = other.hour;
        }

        boolean isThere(int grief) {
            return isFrom(grief, 0, GRIEFS - 1) && strength[grief] > 0;
        }

        int griefsThere() {
            int set = 0;
            for (int grief = 0; grief < GRIEFS; grief++) {
                if (strength[grief] > 0) {
                    set |= 1 << grief;
                }
            }
            return set;
        }

        int griefPart(int grief, int part) {
            return part == 0 ? strength[grief] : marks[grief];
        }

        int holdAsNumber(int hold) {
            return 1000 * grips[hold] + 10 * force[hold] + takes[hold];
        }

        int coatAsNumber(int coat) {
            return 100 * first[coat] + last[coat];
        }

        int countMoves() {
            int moves = 0;
            for (int state = 0; state < STATES; state++) {
                moves += Integer.bitCount(leads[state]);
            }
            return moves;
        }

        int holdsThatFit(int grief) {
            int set = 0;
            for (int hold = 0; hold < HOLDS; hold++) {
                if (isWithin(grips[hold], marks[grief])) {
                    set |= 1 << hold;
                }
            }
            return set;
        }

        /** Does an ACT if it can be: 0, or the reason why not. */
        int attempt(Act act) {
            switch (act.kind) {
                case Act.TAKE: return takeHold(act.grief, act.other);
                case Act.JOIN: return join(act.grief, act.other);
                case Act.SIT: return sitBy(act.grief);
                case Act.REST: return rest();
                default: return passHour();
            }
        }

        private int takeHold(int grief, int hold) {
            if (!isThere(grief)) {
                return 1;
            }
            if (!isHold(hold) || !isWithin(grips[hold], marks[grief])) {
                return 2;
            }
            if (breath < takes[hold]) {
                return 3;
            }
            breath -= takes[hold];
            strength[grief] = Math.max(strength[grief] - force[hold], 0);
            return 0;
        }

        private int join(int grief, int other) {
            if (!isThere(grief) || !isThere(other)) {
                return 1;
            }
            if (grief == other) {
                return 4;
            }
            strength[grief] = Math.min(strength[grief] + strength[other], MOST);
            marks[grief] |= marks[other];
            strength[other] = 0;
            return 0;
        }

        private int sitBy(int grief) {
            if (!isThere(grief)) {
                return 1;
            }
            if (breath < 10) {
                return 3;
            }
            breath -= 10;
            strength[grief] = Math.max(strength[grief] / 2, 1);
            return 0;
        }

        private int rest() {
            if (breath == MOST) {
                return 5;
            }
            breath = Math.min(breath + 20, MOST);
            return 0;
        }

        private int passHour() {
            if (hour == MOST) {
                return 6;
            }
            hour++;
            breath = Math.min(breath + 5, MOST);
            for (int grief = 0; grief < GRIEFS; grief++) {
                if (strength[grief] > 0) {
                    strength[grief] = Math.min(strength[grief] + 3, MOST);
                }
            }
            return 0;
        }

        int strengthOf(int set) {
            int sum = 0;
            for (int grief = 0; grief < GRIEFS; grief++) {
                if (isIn(set, grief)) {
                    sum += strength[grief];
                }
            }
            return sum;
        }

        int marksOf(int set) {
            int all = 0;
            for (int grief = 0; grief < GRIEFS; grief++) {
                if (isIn(set, grief)) {
                    all |= marks[grief];
                }
            }
            return all;
        }

        int leastSetWith(int wanted) {
            int there = griefsThere();
            int best = NONE;
            for (int set = 0; set < 1 << GRIEFS; set++) {
                if (isWithin(set, there) && marksOf(set) == wanted
                        && (best == NONE || strengthOf(set) < strengthOf(best))) {
                    best = set;
                }
            }
            return best;
        }

        int hoursOf(int set) {
            int hours = 0;
            for (int coat = 0; coat < COATS; coat++) {
                if (isIn(set, coat)) {
                    hours |= hoursFrom(first[coat], last[coat]);
                }
            }
            return hours;
        }

        int fewestCoatsFor(int hours) {
            int best = NONE;
            for (int set = 0; set < 1 << COATS; set++) {
                if ((best == NONE || Integer.bitCount(set) < Integer.bitCount(best))
                        && isWithin(hours, hoursOf(set))) {
                    best = set;
                }
            }
            return best;
        }

        boolean addSight(int hold, boolean fits) {
            if (sights >= SIGHTS) {
                return false;
            }
            sightHold[sights] = hold;
            sightFits[sights] = fits;
            sights++;
            return true;
        }

        boolean isAsSeen(int shape) {
            for (int i = 0; i < sights && i < SIGHTS; i++) {
                if (isWithin(grips[sightHold[i]], shape) != sightFits[i]) {
                    return false;
                }
            }
            return true;
        }
    }

    /** One ACT, read or drawn; one object serves for all, so that none is made for each. */
    private static final class Act {
        static final int TAKE = 0, JOIN = 1, SIT = 2, REST = 3, HOUR = 4;

        int kind = HOUR;
        int grief = 0;
        /** The HOLD that he takes, or the GRIEF that joins. */
        int other = 0;

        void become(int newKind, int newGrief, int newOther) {
            kind = newKind;
            grief = newGrief;
            other = newOther;
        }
    }

    private static final class Pad {
        private static final int WRONG = -1, AN_ACT = 0, A_DEED = 1, A_PARTNER = 2;

        final int[] signs = new int[SIGNS];
        int count = 0;

        boolean write(int sign) {
            if (count >= SIGNS) {
                return false;
            }
            signs[count] = sign;
            count++;
            return true;
        }

        int findFault() {
            int awaited = AN_ACT;
            for (int place = 0; place < count; place++) {
                awaited = awaitedAfter(awaited, signAt(place));
                if (awaited == WRONG) {
                    return place;
                }
            }
            return awaited == AN_ACT ? NONE : count;
        }

        private static int awaitedAfter(int awaited, int sign) {
            switch (awaited) {
                case AN_ACT:
                    if (isLetter(sign)) {
                        return A_DEED;
                    }
                    return sign == '~' || sign == '.' ? AN_ACT : WRONG;
                case A_DEED:
                    if (sign == '+') {
                        return A_PARTNER;
                    }
                    return sign == '_' || isFrom(sign, '0', '5') ? AN_ACT : WRONG;
                default:
                    return isLetter(sign) ? AN_ACT : WRONG;
            }
        }

        /** Reads the ACT that begins there, if there is no FAULT: how many signs it has. */
        int read(int place, Act act) {
            int sign = signAt(place);
            if (!isLetter(sign)) {
                act.become(sign == '~' ? Act.REST : Act.HOUR, 0, 0);
                return 1;
            }
            int deed = signAt(place + 1);
            if (deed == '+') {
                act.become(Act.JOIN, sign - 'A', signAt(place + 2) - 'A');
                return 3;
            }
            act.become(deed == '_' ? Act.SIT : Act.TAKE, sign - 'A', deed - '0');
            return 2;
        }

        private int signAt(int place) {
            return place < count && isFrom(place, 0, SIGNS - 1) ? signs[place] : 0;
        }

        private static boolean isLetter(int sign) {
            return isFrom(sign, 'A', 'F');
        }
    }

    /** ACTS tried on a copy, so that nothing is DONE before all of it can be. */
    private static final class Days {
        final Mire behind = new Mire();
        private final Act act = new Act();
        /** How many ACTS were: so the place of the one that can not be. */
        int acts = 0;
        /** Why the last ACT can not be; 0 if it can. */
        int why = 0;
        int down = 0;
        int firstDownAct = NONE;
        int firstDown = NONE;

        void run(Pad pad, Mire start) {
            begin(start);
            int place = 0;
            for (int i = 0; i < SIGNS && place < pad.count; i++) {
                place += pad.read(place, act);
                why = behind.attempt(act);
                if (why != 0) {
                    return;
                }
                noteDown();
                acts++;
            }
        }

        private void begin(Mire start) {
            behind.become(start);
            acts = 0;
            why = 0;
            down = 0;
            firstDownAct = NONE;
            firstDown = NONE;
        }

        private void noteDown() {
            if (act.kind != Act.TAKE || behind.isThere(act.grief)) {
                return;
            }
            if (down == 0) {
                firstDownAct = acts;
                firstDown = act.grief;
            }
            down++;
        }

        void runYear(int seed, int m, Mire start) {
            behind.become(start);
            int x = seed;
            for (int i = 0; i < m; i++) {
                x = (75 * x + 74) % 65537;
                draw(x % 8, x / 8);
                behind.attempt(act);
            }
        }

        private void draw(int lot, int y) {
            if (lot < 4) {
                act.become(Act.TAKE, y / 6 % 6, y % 6);
            } else if (lot == 4) {
                act.become(Act.SIT, y % 6, 0);
            } else {
                act.become(lot == 5 ? Act.REST : Act.HOUR, 0, 0);
            }
        }
    }

    /** LEAST: BREATH and HOLDS in one number, so that less BREATH counts first, then fewer HOLDS. */
    private static final class Prices {
        /** More than the HOLDS that any STRENGTH needs. */
        static final int BREATH = 1000;

        /** The least price by the FORCE that is needed. */
        private final int[] price = new int[MOST + 1];

        int priceOf(Mire mire, int grief) {
            int holds = mire.holdsThatFit(grief);
            int strength = mire.strength[grief];
            if (holds == 0 || !isFrom(strength, 0, MOST)) {
                return NONE;
            }
            price[0] = 0;
            for (int need = 1; need <= strength; need++) {
                price[need] = cheapest(mire, holds, need);
            }
            return price[strength];
        }

        private int cheapest(Mire mire, int holds, int need) {
            int best = ENDLESS;
            for (int hold = 0; hold < HOLDS; hold++) {
                if (isIn(holds, hold)) {
                    int left = Math.max(need - mire.force[hold], 0);
                    best = Math.min(best, price[left] + BREATH * mire.takes[hold] + 1);
                }
            }
            return best;
        }
    }

    private static final class Orders {
        private final Prices prices = new Prices();
        private final int[] hours = new int[GRIEFS];
        /** The least that a set of GRIEFS costs, if nothing else is taken before it. */
        private final int[] borne = new int[1 << GRIEFS];
        private int taken = 0;

        void work(Mire mire) {
            taken = 0;
            for (int grief = 0; grief < GRIEFS; grief++) {
                int price = mire.isThere(grief) ? prices.priceOf(mire, grief) : NONE;
                if (price != NONE) {
                    taken |= 1 << grief;
                    hours[grief] = price % Prices.BREATH;
                }
            }
            for (int set = 1; set <= taken; set++) {
                if (isWithin(set, taken)) {
                    borne[set] = leastOf(mire, set);
                }
            }
        }

        private int leastOf(Mire mire, int set) {
            int best = ENDLESS;
            for (int grief = 0; grief < GRIEFS; grief++) {
                if (isIn(set, grief)) {
                    best = Math.min(best, borneIfFirst(mire, set, grief));
                }
            }
            return best;
        }

        /** All of the set wait for the first one's hours; then the others are as a set of their own. */
        private int borneIfFirst(Mire mire, int set, int grief) {
            return mire.strengthOf(set) * hours[grief] + borne[set & ~(1 << grief)];
        }

        int leastBorne() {
            return borne[taken];
        }

        int firstTaken(Mire mire) {
            for (int grief = 0; grief < GRIEFS; grief++) {
                if (isIn(taken, grief) && borneIfFirst(mire, taken, grief) == borne[taken]) {
                    return grief;
                }
            }
            return NONE;
        }
    }

    private static final class Shapes {
        private final int[] left = new int[SHAPES];
        int count = 0;

        void find(Mire mire) {
            count = 0;
            for (int shape = 0; shape < SHAPES; shape++) {
                if (mire.isAsSeen(shape)) {
                    left[count] = shape;
                    count++;
                }
            }
        }

        int shapeAt(int i) {
            return isFrom(i, 0, count - 1) ? left[i] : NONE;
        }

        int holdToTry(Mire mire) {
            if (count == 0) {
                return NONE;
            }
            int best = 0;
            for (int hold = 1; hold < HOLDS; hold++) {
                if (mostLeftBy(mire.grips[hold]) < mostLeftBy(mire.grips[best])) {
                    best = hold;
                }
            }
            return best;
        }

        int mostLeftBy(int grips) {
            int fit = 0;
            for (int i = 0; i < count; i++) {
                if (isWithin(grips, left[i])) {
                    fit++;
                }
            }
            return Math.max(fit, count - fit);
        }
    }

    /** The mud, solved from its ends backward; what is never reached so may go on for ever. */
    private static final class Game {
        private static final int LOSES = 0, WINS = 1, NEITHER = 2;

        final int[] who = new int[STATES];
        final int[] moves = new int[STATES];

        void solve(int[] leads) {
            for (int state = 0; state < STATES; state++) {
                who[state] = NEITHER;
                moves[state] = NONE;
            }
            // A round that settles no STATE leaves none for the next to settle: so STATES rounds are enough.
            for (int round = 0; round < STATES; round++) {
                for (int state = 0; state < STATES; state++) {
                    if (who[state] == NEITHER) {
                        settle(leads[state], state, round);
                    }
                }
            }
        }

        private void settle(int next, int state, int round) {
            if (leastSettled(next, LOSES, round) != NONE) {
                who[state] = WINS;
                moves[state] = round;
            } else if (areAllWon(next, round)) {
                who[state] = LOSES;
                moves[state] = round;
            }
        }

        /** The least STATE of a set where he who moves is settled so before the round. */
        private int leastSettled(int set, int asWho, int round) {
            for (int state = 0; state < STATES; state++) {
                if (isIn(set, state) && who[state] == asWho && moves[state] < round) {
                    return state;
                }
            }
            return NONE;
        }

        private boolean areAllWon(int set, int round) {
            for (int state = 0; state < STATES; state++) {
                if (isIn(set, state) && (who[state] != WINS || moves[state] >= round)) {
                    return false;
                }
            }
            return true;
        }

        int firstMove(int[] leads, int state) {
            return who[state] == WINS ? leastSettled(leads[state], LOSES, moves[state]) : NONE;
        }
    }
}
