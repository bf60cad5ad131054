import java.util.Arrays;

/**
 * The first pancake: a pan of cells, plans to fry by, the cakes that come of them, and what would come.
 * All rows are made with the object; no call makes another object.
 */
public final class FirstPancake {
    public static final int NONE = -1, UNKNOWN = -101, OUTSIDE = -102, STATE = -103, FULL = -104;

    private static final int MOST_LETTERS = 40;
    private static final int MOST_PLANS = 6;
    private static final int MOST_CAKES = 24;
    private static final int MOST_SEARCHES = 30;
    private static final int MOST_ROWS = 4;
    private static final int MOST_COLUMNS = 4;
    private static final int MOST_CELLS = 16;
    private static final int MOST_SWINGS = 6;
    /** No THICK, and so no EDGE, is as great: AMOUNT is 60 at most. */
    private static final int BEYOND_THICK = 61;
    private static final int MOST_FAT = 9;
    private static final int MOST_BITS = 9;
    private static final int MOST_FIRE = 9;
    private static final int MOST_PACE = 30;
    private static final int MOST_SPIN = 30;
    private static final int MOST_SLIP = 9;
    private static final int MOST_PANS = 9;
    private static final int SERIES = 12;

    private static final int KIND = 0, MEAN = 1, OTHER = 2, EDGE = 3, SPREAD = 4, STUCK = 5, WORTH = 6;
    private static final int RIGHT = 0, PALE = 1, DARK = 2, BURNT = 3, LOPSIDED = 4, TORN = 5;

    /** By KIND: a burnt one is 5 less than a dark one, a torn one 3 less than a lopsided one. */
    private static final int[] WORTHS = {10, 4, 6, 1, 5, 2};
    /** By KIND: the KIND next above it, as which it passes, too. */
    private static final int[] ABOVE = {0, 0, 0, 2, 0, 4};

    private static final int COLDER = 1, FATLESS = 2, BITTY = 4;

    private final Page page = new Page();
    private final PanText panText = new PanText();
    private final PlanText planText = new PlanText();
    private final Foresight foresight = new Foresight();
    /** Foresight makes THE PAN, for a constructor may not hand out a part of its object to it. */
    private final Pan pan = foresight.pan;
    private final Condition now = new Condition();
    private final Condition kept = new Condition();
    private final Plan[] plans = new Plan[MOST_PLANS];
    private final Cake[] cakes = new Cake[MOST_CAKES];
    private final Kitchen kitchen = new Kitchen();
    private int planCount;
    private int cakeCount;
    private int keptCakes;
    private boolean imageKept;
    private int pansRead;
    private int searches;

    public FirstPancake() {
        for (int i = 0; i < MOST_PLANS; i++) {
            plans[i] = new Plan();
        }
        for (int i = 0; i < MOST_CAKES; i++) {
            cakes[i] = new Cake();
        }
    }

    // ---- texts

    public int letters(long w) {
        int more = Page.lettersIn(w);
        if (more == NONE) {
            return OUTSIDE;
        }
        if (page.size + more > MOST_LETTERS) {
            return FULL;
        }
        page.add(w, more);
        return page.size;
    }

    public int blank() {
        int had = page.size;
        page.size = 0;
        return had;
    }

    public int fault(int sort) {
        if (!within(sort, 0, 1)) {
            return OUTSIDE;
        }
        return sort == 0 ? page.readAs(panText) : page.readAs(planText);
    }

    public int pan() {
        if (!page.isWhole(panText)) {
            return STATE;
        }
        pan.become(panText);
        now.clear();
        cakeCount = 0;
        imageKept = false;
        pansRead++;
        page.size = 0;
        return pan.cells;
    }

    public int plan() {
        if (!page.isWhole(planText)) {
            return STATE;
        }
        if (planCount >= MOST_PLANS) {
            return FULL;
        }
        plans[planCount].become(planText);
        planCount++;
        page.size = 0;
        return planCount - 1;
    }

    public int planTold(int plan, int what) {
        if (!isPlan(plan)) {
            return UNKNOWN;
        }
        if (!within(what, 0, 4) && !within(what, 10, 15)) {
            return OUTSIDE;
        }
        return what >= 10 ? plans[plan].swingAt(what - 10) : plans[plan].told(what);
    }

    public int cell(int cell, int what) {
        if (!isCell(cell)) {
            return UNKNOWN;
        }
        switch (what) {
            case 0: return pan.ring[cell];
            case 1: return pan.sticky[cell] ? 1 : 0;
            case 2: return now.warmth[cell];
            case 3: return now.bits[cell];
            default: return OUTSIDE;
        }
    }

    // ---- frying

    public int warm(int fire, int ticks) {
        if (!hasPan()) {
            return STATE;
        }
        if (!within(fire, 0, MOST_FIRE) || !within(ticks, 1, 200)) {
            return OUTSIDE;
        }
        int greatest = 0;
        for (int c = 0; c < pan.cells; c++) {
            now.heat(c, fire * pan.ring[c], ticks, 0);
            greatest = Math.max(greatest, now.warmth[c]);
        }
        return greatest;
    }

    public int fat(int v) {
        if (!hasPan()) {
            return STATE;
        }
        if (!within(v, 0, MOST_FAT)) {
            return OUTSIDE;
        }
        int was = now.fat;
        now.fat = v;
        return was;
    }

    public int scrape() {
        if (!hasPan()) {
            return STATE;
        }
        int were = now.bitsTogether();
        now.clearBits();
        return were;
    }

    public int fry(int plan) {
        if (!isPlan(plan)) {
            return UNKNOWN;
        }
        if (!hasPan()) {
            return STATE;
        }
        if (cakeCount >= MOST_CAKES) {
            return FULL;
        }
        Cake cake = cakes[cakeCount];
        pan.bake(now, plans[plan], cake);
        cakeCount++;
        return cake.told[KIND];
    }

    public int cake(int cake, int what) {
        if (!isCake(cake)) {
            return UNKNOWN;
        }
        return within(what, KIND, WORTH) ? cakes[cake].told[what] : OUTSIDE;
    }

    public int as(int cake, int kind) {
        if (!isCake(cake)) {
            return UNKNOWN;
        }
        if (!within(kind, RIGHT, TORN)) {
            return OUTSIDE;
        }
        return cakes[cake].passesAs(kind) ? cake : NONE;
    }

    public int thick(int cake, int cell) {
        if (!isCake(cake) || !isCell(cell)) {
            return UNKNOWN;
        }
        return cakes[cake].thick[cell];
    }

    // ---- what would be

    public int tried(int plan, int what) {
        if (!isPlan(plan)) {
            return UNKNOWN;
        }
        if (!hasPan()) {
            return STATE;
        }
        if (!within(what, KIND, WORTH)) {
            return OUTSIDE;
        }
        return foresight.next(now, plans[plan]).told[what];
    }

    public int from(int plan) {
        if (!isPlan(plan)) {
            return UNKNOWN;
        }
        return hasPan() ? foresight.firstOfTheRight(now, plans[plan]) : STATE;
    }

    public int dogs(int plan) {
        if (!isPlan(plan)) {
            return UNKNOWN;
        }
        return hasPan() ? foresight.notRight(now, plans[plan]) : STATE;
    }

    public int why(int plan) {
        if (!isPlan(plan)) {
            return UNKNOWN;
        }
        return hasPan() ? foresight.reasons(now, plans[plan]) : STATE;
    }

    public int bestFire(int plan, int cakes, int what) {
        if (!isPlan(plan)) {
            return UNKNOWN;
        }
        if (!hasPan()) {
            return STATE;
        }
        if (!within(cakes, 1, SERIES) || !within(what, 0, 1)) {
            return OUTSIDE;
        }
        foresight.findFire(now, plans[plan], cakes);
        return what == 0 ? foresight.found : foresight.value;
    }

    public int bestSwing(int plan, int k, int what) {
        if (!isPlan(plan)) {
            return UNKNOWN;
        }
        if (!hasPan()) {
            return STATE;
        }
        if (!within(k, 1, 3) || !within(what, 0, 3)) {
            return OUTSIDE;
        }
        if (searches >= MOST_SEARCHES) {
            return STATE;
        }
        searches++;
        foresight.findSwings(now, plans[plan], k);
        if (what == 3) {
            return foresight.value;
        }
        return what < k ? Foresight.swingOf(foresight.found, k, what) : NONE;
    }

    public int nextTwo(int what) {
        if (!hasPan() || planCount == 0) {
            return STATE;
        }
        if (!within(what, 0, 2)) {
            return OUTSIDE;
        }
        if (searches >= MOST_SEARCHES) {
            return STATE;
        }
        searches++;
        foresight.findTwo(now, plans, planCount);
        if (what == 2) {
            return foresight.value;
        }
        return what == 0 ? foresight.found : foresight.foundBehind;
    }

    // ---- rounds, tosses

    public int rounds(int pans, int first, int second, int hands, int by, int what) {
        if (!within(pans, 1, MOST_PANS) || !within(first, 1, 99) || !within(second, 1, 99)
                || !within(hands, 1, 9) || !within(by, 0, 999) || !within(what, 0, 1)) {
            return OUTSIDE;
        }
        kitchen.work(pans, first, second, hands, by);
        return what == 0 ? kitchen.most : kitchen.waited;
    }

    public int toss(int pace, int spin) {
        if (!within(pace, 1, MOST_PACE) || !within(spin, 1, MOST_SPIN)) {
            return OUTSIDE;
        }
        return Wrist.turnsOver(pace, spin) ? 1 : 0;
    }

    public int lands(int pace, int spin, int slip, int part) {
        if (!within(pace, 1, MOST_PACE) || !within(spin, 1, MOST_SPIN)
                || !within(slip, 0, MOST_SLIP) || !within(part, 0, 1)) {
            return OUTSIDE;
        }
        int above = Wrist.landings(pace, spin, slip);
        int below = Wrist.paces(pace, slip);
        int common = Math.max(1, Wrist.commonDivisor(above, below));
        return (part == 0 ? above : below) / common;
    }

    public int bestSpin(int pace, int slip) {
        if (!within(pace, 1, MOST_PACE) || !within(slip, 0, MOST_SLIP)) {
            return OUTSIDE;
        }
        return Wrist.likeliestSpin(pace, slip);
    }

    // ---- what is told of all

    public int image() {
        if (!hasPan()) {
            return STATE;
        }
        kept.become(now);
        keptCakes = cakeCount;
        imageKept = true;
        return keptCakes;
    }

    public int restore() {
        if (!imageKept) {
            return STATE;
        }
        now.become(kept);
        cakeCount = keptCakes;
        return cakeCount;
    }

    public int count(int what) {
        switch (what) {
            case 0: return pan.cells;
            case 1: return planCount;
            case 2: return cakeCount;
            case 3: return page.size;
            case 4: return now.fat;
            case 5: return now.bitsTogether();
            case 6: return pansRead;
            case 7: return searches;
            case 8: return worthTogether();
            default: return OUTSIDE;
        }
    }

    public long digest() {
        long h = digestOfCells(499);
        h = digestOfPlans(h);
        h = digestOfCakes(h);
        h = digestOfTried(h);
        for (int i = 0; i < page.size; i++) {
            h = mixed(h, page.codes[i]);
        }
        for (int what = 0; what <= 8; what++) {
            h = mixed(h, count(what));
        }
        return h;
    }

    private long digestOfCells(long start) {
        long h = start;
        for (int c = 0; c < pan.cells; c++) {
            for (int what = 0; what <= 3; what++) {
                h = mixed(h, cell(c, what));
            }
        }
        return h;
    }

    private long digestOfPlans(long start) {
        long h = start;
        for (int p = 0; p < planCount; p++) {
            for (int what = 0; what <= 4; what++) {
                h = mixed(h, plans[p].told(what));
            }
            for (int i = 0; i < plans[p].swingCount; i++) {
                h = mixed(h, plans[p].swingAt(i));
            }
        }
        return h;
    }

    private long digestOfCakes(long start) {
        long h = start;
        for (int i = 0; i < cakeCount; i++) {
            for (int what = KIND; what <= WORTH; what++) {
                h = mixed(h, cakes[i].told[what]);
            }
            for (int c = 0; c < pan.cells; c++) {
                h = mixed(h, cakes[i].thick[c]);
            }
        }
        return h;
    }

    private long digestOfTried(long start) {
        long h = start;
        if (!hasPan()) {
            return h;
        }
        for (int p = 0; p < planCount; p++) {
            Cake next = foresight.next(now, plans[p]);
            h = mixed(h, next.told[KIND]);
            h = mixed(h, next.told[MEAN]);
        }
        return h;
    }

    private int worthTogether() {
        int sum = 0;
        for (int i = 0; i < cakeCount; i++) {
            sum += cakes[i].told[WORTH];
        }
        return sum;
    }

    private boolean hasPan() {
        return pan.cells > 0;
    }

    private boolean isPlan(int number) {
        return within(number, 0, planCount - 1);
    }

    private boolean isCell(int number) {
        return within(number, 0, pan.cells - 1);
    }

    private boolean isCake(int number) {
        return within(number, 0, cakeCount - 1);
    }

    private static boolean within(int value, int least, int most) {
        return value >= least && value <= most;
    }

    private static long mixed(long h, long number) {
        return 31 * h + number;
    }

    /** THE PAGE: the letters that were told and not yet read. */
    private static final class Page {
        final int[] codes = new int[MOST_LETTERS];
        int size;

        /** How many letters w tells, NONE if it is not as told. */
        static int lettersIn(long w) {
            int letters = 0;
            for (int i = 0; i < 8; i++) {
                int code = codeAt(w, i);
                if (code > 126 || code != 0 && letters < i) {
                    return NONE;
                }
                if (code != 0) {
                    letters++;
                }
            }
            return letters;
        }

        void add(long w, int letters) {
            for (int i = 0; i < letters && size < MOST_LETTERS; i++) {
                codes[size] = codeAt(w, i);
                size++;
            }
        }

        /** The place of the first letter that the text does not take; how many there are, if it takes all. */
        int readAs(Text text) {
            text.begin();
            for (int i = 0; i < size; i++) {
                if (!text.take(codes[i])) {
                    return i;
                }
            }
            return size;
        }

        boolean isWhole(Text text) {
            return readAs(text) == size && text.whole();
        }

        private static int codeAt(long w, int place) {
            return (int) (w >>> (8 * place)) & 255;
        }
    }

    /** A text that is read letter by letter; a letter is taken only if some whole text goes on from there. */
    private abstract static class Text {
        abstract void begin();

        abstract boolean take(int letter);

        abstract boolean whole();

        static boolean isDigit(int letter) {
            return letter >= '0' && letter <= '9';
        }
    }

    private static final class PanText extends Text {
        final int[] ring = new int[MOST_CELLS];
        final boolean[] sticky = new boolean[MOST_CELLS];
        int rows;
        int cells;
        int width;
        private int inRow;
        private boolean behindRing;

        void begin() {
            rows = 1;
            cells = 0;
            inRow = 0;
            width = 0;
            behindRing = false;
        }

        boolean take(int letter) {
            if (isDigit(letter)) {
                return takeRing(letter - '0');
            }
            if (letter == 's') {
                return takeSticky();
            }
            return letter == '/' && takeRowEnd();
        }

        boolean whole() {
            return rows >= 2 && inRow == width;
        }

        private boolean takeRing(int digit) {
            int room = rows == 1 ? MOST_COLUMNS : width;
            if (inRow >= room || cells >= MOST_CELLS) {
                return false;
            }
            ring[cells] = digit;
            sticky[cells] = false;
            cells++;
            inRow++;
            behindRing = true;
            return true;
        }

        private boolean takeSticky() {
            if (!behindRing || cells < 1) {
                return false;
            }
            sticky[cells - 1] = true;
            behindRing = false;
            return true;
        }

        private boolean takeRowEnd() {
            boolean rowWhole = rows == 1 ? inRow >= 2 : inRow == width;
            if (!rowWhole || rows >= MOST_ROWS) {
                return false;
            }
            width = inRow;
            rows++;
            inRow = 0;
            behindRing = false;
            return true;
        }
    }

    private static final class PlanText extends Text {
        static final int FIRE = 1, AMOUNT = 2, FIRST = 3, SECOND = 4;
        /** The sign at i ends part i and begins the part behind it; part 0 is what stands ahead of all. */
        private static final String SIGNS = "fatu";
        private static final String SWINGS = "nesw";
        private static final int[] MOST = {0, 9, 60, 60, 60};

        final int[] numbers = new int[5];
        final int[] swings = new int[MOST_SWINGS];
        int swingCount;
        private int part;

        void begin() {
            Arrays.fill(numbers, 0);
            swingCount = 0;
            part = 0;
        }

        boolean take(int letter) {
            if (isDigit(letter)) {
                return takeDigit(letter - '0');
            }
            int swing = SWINGS.indexOf((char) letter);
            return swing >= 0 ? takeSwing(swing) : takeSign(letter);
        }

        boolean whole() {
            return part == SECOND && numbers[SECOND] > 0;
        }

        private boolean takeDigit(int digit) {
            // A number that began is never 0, so this also refuses a 0 ahead.
            int number = 10 * numbers[part] + digit;
            if (number < 1 || number > MOST[part] || part == AMOUNT && swingCount > 0) {
                return false;
            }
            numbers[part] = number;
            return true;
        }

        private boolean takeSwing(int swing) {
            if (part != AMOUNT || numbers[AMOUNT] < 1 || swingCount >= MOST_SWINGS) {
                return false;
            }
            swings[swingCount] = swing;
            swingCount++;
            return true;
        }

        private boolean takeSign(int letter) {
            if (part >= SECOND || letter != SIGNS.charAt(part) || part > 0 && numbers[part] < 1) {
                return false;
            }
            part++;
            return true;
        }
    }

    /** What of THE PAN changes by use, and what an IMAGE keeps. */
    private static final class Condition {
        final int[] warmth = new int[MOST_CELLS];
        final int[] bits = new int[MOST_CELLS];
        int fat;

        void clear() {
            Arrays.fill(warmth, 0);
            clearBits();
            fat = 0;
        }

        void clearBits() {
            Arrays.fill(bits, 0);
        }

        void become(Condition other) {
            takeWarmth(other);
            System.arraycopy(other.bits, 0, bits, 0, MOST_CELLS);
            fat = other.fat;
        }

        void takeWarmth(Condition other) {
            System.arraycopy(other.warmth, 0, warmth, 0, MOST_CELLS);
        }

        int bitsTogether() {
            int sum = 0;
            for (int c = 0; c < MOST_CELLS; c++) {
                sum += bits[c];
            }
            return sum;
        }

        void cool(int cell, int poured) {
            warmth[cell] = Math.max(0, warmth[cell] - 2 * poured);
        }

        /** Ticks go over one cell, each with so much heat: by how much what lies there so thick browned. */
        int heat(int cell, int heat, int ticks, int thick) {
            int warm = warmth[cell];
            int brown = 0;
            for (int left = ticks; left > 0; left--) {
                int change = heat - warm / 10;
                // A cell that no longer changes browns alike in every tick that is left.
                int alike = change == 0 ? left : 1;
                warm += change;
                if (thick > 0 && warm > 60) {
                    brown += alike * ((warm - 60) / (thick + 2));
                }
                if (change == 0) {
                    break;
                }
            }
            warmth[cell] = warm;
            return brown;
        }
    }

    private static final class Plan {
        final int[] swings = new int[MOST_SWINGS];
        int fire;
        int amount;
        int first;
        int second;
        int swingCount;

        /** The text must be whole. */
        void become(PlanText text) {
            fire = text.numbers[PlanText.FIRE];
            amount = text.numbers[PlanText.AMOUNT];
            first = text.numbers[PlanText.FIRST];
            second = text.numbers[PlanText.SECOND];
            swingCount = text.swingCount;
            System.arraycopy(text.swings, 0, swings, 0, MOST_SWINGS);
        }

        void become(Plan other) {
            fire = other.fire;
            amount = other.amount;
            first = other.first;
            second = other.second;
            swingCount = other.swingCount;
            System.arraycopy(other.swings, 0, swings, 0, MOST_SWINGS);
        }

        int told(int what) {
            switch (what) {
                case 0: return fire;
                case 1: return amount;
                case 2: return first;
                case 3: return second;
                default: return swingCount;
            }
        }

        int swingAt(int place) {
            return within(place, 0, swingCount - 1) ? swings[place] : NONE;
        }
    }

    private static final class Cake {
        final int[] thick = new int[MOST_CELLS];
        /** By what, as cake() tells it. */
        final int[] told = new int[7];

        boolean isRight() {
            return told[KIND] == RIGHT;
        }

        boolean passesAs(int kind) {
            int own = told[KIND];
            return kind == RIGHT || kind == own || kind == ABOVE[own];
        }

        /** EDGE and how many cells it covers, from THICK alone. */
        void measure() {
            int least = BEYOND_THICK;
            int greatest = 0;
            int covered = 0;
            for (int c = 0; c < MOST_CELLS; c++) {
                if (thick[c] > 0) {
                    least = Math.min(least, thick[c]);
                    greatest = Math.max(greatest, thick[c]);
                    covered++;
                }
            }
            told[EDGE] = covered > 0 ? greatest - least : 0;
            told[SPREAD] = covered;
        }

        /** What is told of it, from THICK and the BROWN of each side of all cells together. */
        void judge(int firstBrown, int otherBrown, int stuck) {
            measure();
            int covered = Math.max(1, told[SPREAD]);
            told[MEAN] = firstBrown / covered;
            told[OTHER] = otherBrown / covered;
            told[STUCK] = stuck;
            told[KIND] = kindNow();
            told[WORTH] = WORTHS[told[KIND]];
        }

        private int kindNow() {
            if (told[STUCK] > 0) {
                return TORN;
            }
            if (told[EDGE] > 9) {
                return LOPSIDED;
            }
            int mean = told[MEAN];
            if (mean < 20) {
                return PALE;
            }
            return mean > 100 ? BURNT : mean > 60 ? DARK : RIGHT;
        }
    }

    /** THE PAN as its text tells it, without cells until one is read; it fries in any condition that it is given. */
    private static final class Pan {
        final int[] ring = new int[MOST_CELLS];
        final boolean[] sticky = new boolean[MOST_CELLS];
        int cells;
        private int rows;
        private int columns;
        private final boolean[] fast = new boolean[MOST_CELLS];
        private final int[] leaving = new int[MOST_CELLS];

        /** The text must be whole. */
        void become(PanText text) {
            rows = text.rows;
            columns = text.width;
            cells = text.cells;
            for (int c = 0; c < cells; c++) {
                ring[c] = text.ring[c];
                sticky[c] = text.sticky[c];
            }
        }

        void bake(Condition condition, Plan plan, Cake cake) {
            int firstBrown = spread(condition, plan, cake) + lie(condition, plan.fire, plan.first, cake);
            int otherBrown = lie(condition, plan.fire, plan.second, cake);
            cake.judge(firstBrown, otherBrown, takeOut(condition, cake));
        }

        /** Pours and swings: the BROWN of all cells together. EDGE needs no more than this. */
        int spread(Condition condition, Plan plan, Cake cake) {
            pour(condition, plan.amount, cake);
            int brown = 0;
            for (int i = 0; i < plan.swingCount; i++) {
                brown += lie(condition, plan.fire, 1, cake);
                fasten(condition, cake);
                run(condition, cake, plan.swingAt(i));
            }
            return brown;
        }

        private void pour(Condition condition, int amount, Cake cake) {
            for (int c = 0; c < MOST_CELLS; c++) {
                cake.thick[c] = 0;
                fast[c] = false;
            }
            int middle = rows / 2 * columns + columns / 2;
            cake.thick[middle] = amount;
            condition.cool(middle, amount);
        }

        /**
         * Ticks go: by how much all cells browned together. Their sum is enough for MEAN and OTHER,
         * for a cell is never left by all that lies there: what browned has THICK to the end.
         */
        private int lie(Condition condition, int fire, int ticks, Cake cake) {
            int brown = 0;
            for (int c = 0; c < cells; c++) {
                brown += condition.heat(c, fire * ring[c], ticks, cake.thick[c]);
            }
            return brown;
        }

        private void fasten(Condition condition, Cake cake) {
            for (int c = 0; c < cells; c++) {
                if (cake.thick[c] > 0 && condition.warmth[c] >= 100) {
                    fast[c] = true;
                }
            }
        }

        private void run(Condition condition, Cake cake, int swing) {
            // Half of what is above 1, rounded up, is half of it all, rounded down.
            for (int c = 0; c < cells; c++) {
                leaving[c] = fast[c] ? 0 : cake.thick[c] / 2;
            }
            for (int row = 0; row < rows; row++) {
                for (int column = 0; column < columns; column++) {
                    int cell = row * columns + column;
                    int to = beside(row, column, swing);
                    if (to != NONE) {
                        cake.thick[cell] -= leaving[cell];
                        cake.thick[to] += leaving[cell];
                        condition.cool(to, leaving[cell]);
                    }
                }
            }
        }

        /** The cell that a swing (0 n, 1 e, 2 s, 3 w) leads to, NONE beyond the rim. */
        private int beside(int row, int column, int swing) {
            int toRow = row + (swing == 0 ? -1 : swing == 2 ? 1 : 0);
            int toColumn = column + (swing == 3 ? -1 : swing == 1 ? 1 : 0);
            boolean inside = within(toRow, 0, rows - 1) && within(toColumn, 0, columns - 1);
            return inside ? toRow * columns + toColumn : NONE;
        }

        /** How many cells were STUCK. */
        private int takeOut(Condition condition, Cake cake) {
            int stuck = 0;
            for (int c = 0; c < cells; c++) {
                if (cake.thick[c] > 0 && sticky[c] && condition.fat <= condition.bits[c]) {
                    condition.bits[c] = Math.min(MOST_BITS, condition.bits[c] + 1);
                    stuck++;
                }
            }
            condition.fat = Math.max(0, condition.fat - 1);
            return stuck;
        }
    }

    /** What would be: fries on conditions of its own, so THE PAN stays as it is. */
    private static final class Foresight {
        final Pan pan = new Pan();
        private final Condition trial = new Condition();
        private final Condition later = new Condition();
        private final Cake cake = new Cake();
        private final Plan variant = new Plan();
        int found;
        int foundBehind;
        int value;

        /** The next one; the same object is used by every trial. */
        Cake next(Condition now, Plan plan) {
            trial.become(now);
            pan.bake(trial, plan, cake);
            return cake;
        }

        int firstOfTheRight(Condition now, Plan plan) {
            trial.become(now);
            int first = 0;
            for (int i = 0; i < SERIES; i++) {
                pan.bake(trial, plan, cake);
                if (!cake.isRight()) {
                    first = i + 1;
                }
            }
            return first < SERIES ? first : NONE;
        }

        int notRight(Condition now, Plan plan) {
            trial.become(now);
            int wrong = 0;
            for (int i = 0; i < SERIES; i++) {
                pan.bake(trial, plan, cake);
                if (!cake.isRight()) {
                    wrong++;
                }
            }
            return wrong;
        }

        int reasons(Condition now, Plan plan) {
            if (next(now, plan).isRight()) {
                return NONE;
            }
            int sum = 0;
            warmBySix(now, plan);
            if (next(later, plan).isRight()) {
                sum += COLDER;
            }
            later.become(now);
            later.fat = MOST_FAT;
            if (next(later, plan).isRight()) {
                sum += FATLESS;
            }
            later.become(now);
            later.clearBits();
            if (next(later, plan).isRight()) {
                sum += BITTY;
            }
            return sum;
        }

        /** Later becomes as now, but as warm as behind six. */
        private void warmBySix(Condition now, Plan plan) {
            trial.become(now);
            for (int i = 0; i < 6; i++) {
                pan.bake(trial, plan, cake);
            }
            later.become(now);
            later.takeWarmth(trial);
        }

        /** Found: the FIRE; value: WORTH together. */
        void findFire(Condition now, Plan plan, int cakes) {
            variant.become(plan);
            value = NONE;
            for (int fire = 1; fire <= MOST_FIRE; fire++) {
                variant.fire = fire;
                int worth = worthOf(now, cakes);
                if (worth > value) {
                    value = worth;
                    found = fire;
                }
            }
        }

        private int worthOf(Condition now, int cakes) {
            trial.become(now);
            int worth = 0;
            for (int i = 0; i < cakes; i++) {
                pan.bake(trial, variant, cake);
                worth += cake.told[WORTH];
            }
            return worth;
        }

        /** Found: the row of k SWINGS, as its number among all such rows in their order; value: EDGE. */
        void findSwings(Condition now, Plan plan, int k) {
            variant.become(plan);
            variant.swingCount = Math.min(k, MOST_SWINGS);
            value = BEYOND_THICK;
            for (int row = 0; row < 1 << (2 * k); row++) {
                for (int i = 0; i < variant.swingCount; i++) {
                    variant.swings[i] = swingOf(row, k, i);
                }
                trial.become(now);
                pan.spread(trial, variant, cake);
                cake.measure();
                if (cake.told[EDGE] < value) {
                    value = cake.told[EDGE];
                    found = row;
                }
            }
        }

        /** The rows are numbered so that the first SWING weighs most. */
        static int swingOf(int row, int k, int place) {
            return row >> (2 * (k - 1 - place)) & 3;
        }

        /** Found, foundBehind: the two PLANS; value: WORTH together. */
        void findTwo(Condition now, Plan[] plans, int count) {
            value = NONE;
            for (int first = 0; first < count; first++) {
                later.become(now);
                pan.bake(later, plans[first], cake);
                int worth = cake.told[WORTH];
                for (int second = 0; second < count; second++) {
                    int together = worth + next(later, plans[second]).told[WORTH];
                    if (together > value) {
                        value = together;
                        found = first;
                        foundBehind = second;
                    }
                }
            }
        }
    }

    /** ROUNDS: several pans for one pair of hands. */
    private static final class Kitchen {
        private static final int POUR = 0, TURN = 1, TAKE_OUT = 2;

        /** By pan: since when, or from when on, it wants the hands, and for what. */
        private final int[] wants = new int[MOST_PANS];
        private final int[] task = new int[MOST_PANS];
        int most;
        int waited;

        void work(int pans, int first, int second, int hands, int by) {
            Arrays.fill(wants, 0);
            Arrays.fill(task, POUR);
            most = 0;
            waited = 0;
            int free = 0;
            // Each task keeps the hands for a second at least, so there are no more of them than seconds.
            for (int i = 0; i < by; i++) {
                int pan = longestWanting(pans);
                int start = Math.max(free, wants[pan]);
                if (start >= by) {
                    break;
                }
                waited = Math.max(waited, start - wants[pan]);
                free = start + hands;
                if (task[pan] == TAKE_OUT && free <= by) {
                    most++;
                }
                wants[pan] = free + (task[pan] == POUR ? first : task[pan] == TURN ? second : 0);
                task[pan] = task[pan] == TAKE_OUT ? POUR : task[pan] + 1;
            }
        }

        /** If none wants them yet, the one that will first. */
        private int longestWanting(int pans) {
            int best = 0;
            for (int pan = 1; pan < pans; pan++) {
                if (wants[pan] < wants[best]) {
                    best = pan;
                }
            }
            return best;
        }
    }

    /** TOSSES. */
    private static final class Wrist {
        static boolean turnsOver(int pace, int spin) {
            return pace * spin / 10 % 4 == 2;
        }

        /** How many PACES a wrist that slips may give; above 30, too. */
        static int paces(int pace, int slip) {
            return pace + slip - slowest(pace, slip) + 1;
        }

        static int landings(int pace, int spin, int slip) {
            int landings = 0;
            for (int p = slowest(pace, slip); p <= pace + slip; p++) {
                if (turnsOver(p, spin)) {
                    landings++;
                }
            }
            return landings;
        }

        static int likeliestSpin(int pace, int slip) {
            int best = 1;
            int most = NONE;
            for (int spin = 1; spin <= MOST_SPIN; spin++) {
                int landings = landings(pace, spin, slip);
                if (landings > most) {
                    most = landings;
                    best = spin;
                }
            }
            return best;
        }

        /** The greatest number that divides both; 1 at least. */
        static int commonDivisor(int above, int below) {
            for (int d = below; d > 1; d--) {
                if (above % d == 0 && below % d == 0) {
                    return d;
                }
            }
            return 1;
        }

        private static int slowest(int pace, int slip) {
            return Math.max(1, pace - slip);
        }
    }
}
