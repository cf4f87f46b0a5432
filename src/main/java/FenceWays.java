import java.util.Arrays;

/**
 * Threads whose steps may overtake one another, what can be read in them, and
 * the fences that keep them in order. The document DOC.md tells what each call
 * answers; words in its capitals are used here in the same sense.
 */
public final class FenceWays {
    public static final int NONE = -1, UNKNOWN = -1000000001, OUTSIDE = -1000000002, NOT = -1000000003, FULL = -1000000004;

    private static final int MOST_LETTERS = 120;
    private static final int MOST_THREADS = 3;
    private static final int MOST_STEPS = 8;
    private static final int LAST_CELL = 2;
    private static final int ALL_KINDS = 15;
    private static final int MOST_COST = 9;
    private static final int MOST_TIMES = 20;
    private static final int MOST_ENTRIES = 20;
    private static final int LAST_NUMBER = 43046720;
    private static final int IMAGES = 2;

    private final Text text;
    private final Parser parser;
    private Plan plan;
    private Plan draft;
    private final Rings rings;
    private final LoosePairs loosePairs;
    private final Setting setting;
    private final History history;
    private final Image[] images;
    private final Book book;
    private final Orders orders;
    private final ReadingList readings;
    private final ReadingList strictReadings;
    private boolean readingsAreKnown;
    private int fencesOfReadings;
    private int kindsOfReadings;
    private boolean strictAreKnown;
    private int seedNow;
    private int faultPlace;

    public FenceWays() {
        text = new Text();
        parser = new Parser();
        plan = new Plan();
        draft = new Plan();
        rings = new Rings();
        loosePairs = new LoosePairs();
        setting = new Setting();
        history = new History();
        images = new Image[IMAGES];
        for (int i = 0; i < images.length; i++) {
            images[i] = new Image();
        }
        book = new Book();
        orders = new Orders();
        readings = new ReadingList();
        strictReadings = new ReadingList();
        readingsAreKnown = false;
        fencesOfReadings = 0;
        kindsOfReadings = 0;
        strictAreKnown = false;
        seedNow = 0;
        faultPlace = NONE;
    }

    // ---- threads

    public int feed(int letter) {
        if (letter < 0 || letter > 255) {
            return OUTSIDE;
        }
        return text.add(letter) ? text.length : FULL;
    }

    public int threads() {
        int faultNumber = parser.parse(text, draft);
        faultPlace = parser.faultPlace;
        text.clear();
        if (faultNumber != 0) {
            return -10 - faultNumber;
        }
        Plan old = plan;
        plan = draft;
        draft = old;
        startAnew();
        return plan.stepCount;
    }

    public int fault() {
        return faultPlace;
    }

    public int told(int what) {
        switch (what) {
            case 0: return plan.threadCount;
            case 1: return plan.stepCount;
            case 2: return text.length;
            case 3: return setting.kinds;
            case 4: return setting.fences;
            case 5: return setting.costOfSet(setting.fences);
            case 6: return readingsNow().count;
            case 7: return strictNow().count;
            case 8: return readingsNow().countWithout(strictNow());
            case 9: return rings.count;
            case 10: return looseNow().count;
            case 11: return looseNow().countHeld(setting.fences);
            case 12: return looseNow().areAllHeld(setting.fences) ? 1 : 0;
            case 13: return bestSet();
            case 14: return setting.costOfSet(bestSet());
            case 15: return looseNow().neededOf(setting.fences);
            case 16: return book.count;
            case 17: return book.firstWrong(readingsNow());
            case 18: return history.count;
            default: return OUTSIDE;
        }
    }

    public int step(int s, int what) {
        if (!plan.hasStep(s)) {
            return UNKNOWN;
        }
        switch (what) {
            case 0: return plan.threadOf(s);
            case 1: return plan.cellOf(s);
            case 2: return plan.isWriter(s) ? 1 : 0;
            case 3: return plan.hasGap(s) ? setting.costOf(s) : NONE;
            case 4: return plan.hasGap(s) ? looseNow().countHeld(1 << s) : NONE;
            case 5: return plan.waitsOf(s, setting.fences, setting.kinds);
            case 6: return plan.conflictsOf(s);
            default: return OUTSIDE;
        }
    }

    public int pair(int s, int u, int what) {
        if (!plan.hasStep(s) || !plan.hasStep(u) || s == u) {
            return UNKNOWN;
        }
        if (what < 0 || what > 3) {
            return OUTSIDE;
        }
        if (!plan.isAhead(s, u)) {
            return NOT;
        }
        int given = rings.countWith(s, u);
        switch (what) {
            case 0: return given > 0 ? 1 : 0;
            case 1: return given > 0 && plan.mayOvertake(s, u, setting.kinds) ? 1 : 0;
            case 2: return given > 0 && (setting.fences & gapsBetween(s, u)) != 0 ? 1 : 0;
            default: return given;
        }
    }

    public int reading(int i, int what) {
        switch (what) {
            case 0: return readingsNow().at(i);
            case 1: return strictNow().at(i);
            case 2: return readingsNow().atWithout(i, strictNow());
            default: return OUTSIDE;
        }
    }

    public int can(int number) {
        if (strictNow().holds(number)) {
            return 2;
        }
        return readingsNow().holds(number) ? 1 : 0;
    }

    // ---- deeds

    public int fence(int gap, boolean is) {
        if (!plan.hasGap(gap)) {
            return UNKNOWN;
        }
        history.add(setting);
        setting.setFence(gap, is);
        return setting.costOfSet(setting.fences);
    }

    public int cost(int gap, int v) {
        if (!plan.hasGap(gap)) {
            return UNKNOWN;
        }
        if (v < 1 || v > MOST_COST) {
            return OUTSIDE;
        }
        int old = setting.costOf(gap);
        history.add(setting);
        setting.setCost(gap, v);
        return old;
    }

    public int overtaking(int set) {
        if (set < 0 || set > ALL_KINDS) {
            return OUTSIDE;
        }
        history.add(setting);
        setting.kinds = set;
        return readingsNow().count;
    }

    public int best() {
        int set = bestSet();
        history.add(setting);
        setting.fences = set;
        return setting.costOfSet(set);
    }

    public int drift(int n) {
        if (n < 1 || n > MOST_TIMES) {
            return OUTSIDE;
        }
        if (plan.stepCount > 0) {
            for (int i = 0; i < n; i++) {
                driftOnce();
            }
        }
        return setting.fences;
    }

    public int undo(int n) {
        if (n < 1 || n > MOST_TIMES) {
            return OUTSIDE;
        }
        if (n > history.count) {
            return NOT;
        }
        history.takeBack(n, setting);
        return history.count;
    }

    // ---- the book

    public int write(int number, boolean can) {
        if (number < 0 || number > LAST_NUMBER) {
            return OUTSIDE;
        }
        return book.add(number, can) ? book.count : FULL;
    }

    public int tear() {
        int had = book.count;
        book.clear();
        return had;
    }

    // ---- images

    public int seed(int v) {
        if (v < 0) {
            return OUTSIDE;
        }
        int old = seedNow;
        seedNow = v;
        return old;
    }

    public int keep(int i) {
        if (i < 0 || i >= images.length) {
            return UNKNOWN;
        }
        images[i].hold(setting, seedNow);
        history.clear();
        return 1;
    }

    public int goBack(int i) {
        if (i < 0 || i >= images.length) {
            return UNKNOWN;
        }
        Image image = images[i];
        if (!image.isKept) {
            return NOT;
        }
        setting.copy(image.setting);
        seedNow = image.seedThen;
        history.clear();
        return 1;
    }

    // ---- what the calls share

    private void startAnew() {
        rings.find(plan);
        setting.clear();
        history.clear();
        for (int i = 0; i < images.length; i++) {
            images[i].isKept = false;
        }
        book.clear();
        readingsAreKnown = false;
        strictAreKnown = false;
    }

    private void driftOnce() {
        // All four are drawn each time, whichever of them counts.
        int deed = draw(4);
        int s = draw(plan.stepCount);
        int costLessOne = draw(MOST_COST);
        int kinds = draw(ALL_KINDS + 1);
        history.add(setting);
        if (deed == 3) {
            setting.kinds = kinds;
        } else if (plan.hasGap(s)) {
            if (deed == 2) {
                setting.setCost(s, costLessOne + 1);
            } else {
                setting.setFence(s, !has(setting.fences, s));
            }
        }
    }

    private int draw(int n) {
        seedNow = (int) ((seedNow * 1103515245L + 12345L) & 2147483647L);
        return n > 0 ? (seedNow >>> 16) % n : 0;
    }

    private ReadingList readingsNow() {
        if (!readingsAreKnown || fencesOfReadings != setting.fences || kindsOfReadings != setting.kinds) {
            orders.findReadings(plan, setting.fences, setting.kinds, readings);
            readingsAreKnown = true;
            fencesOfReadings = setting.fences;
            kindsOfReadings = setting.kinds;
        }
        return readings;
    }

    private ReadingList strictNow() {
        if (!strictAreKnown) {
            orders.findReadings(plan, 0, 0, strictReadings);
            strictAreKnown = true;
        }
        return strictReadings;
    }

    private LoosePairs looseNow() {
        loosePairs.gather(plan, rings, setting.kinds);
        return loosePairs;
    }

    private int bestSet() {
        return looseNow().cheapestSet(plan.gaps, setting);
    }

    private static boolean has(int set, int k) {
        return k >= 0 && k < 31 && (set >>> k & 1) != 0;
    }

    /** The GAPS between two STEPS of one THREAD: from behind s up to that of u. */
    private static int gapsBetween(int s, int u) {
        int gaps = 0;
        for (int gap = s + 1; gap <= u && gap < MOST_STEPS; gap++) {
            gaps |= 1 << gap;
        }
        return gaps;
    }

    /** THE TEXT, as far as it was fed. */
    private static final class Text {
        private final int[] letters = new int[MOST_LETTERS];
        private int length = 0;

        boolean add(int letter) {
            if (length < 0 || length >= letters.length) {
                return false;
            }
            letters[length] = letter;
            length++;
            return true;
        }

        int letterAt(int place) {
            return place >= 0 && place < letters.length ? letters[place] : NONE;
        }

        void clear() {
            length = 0;
        }
    }

    /** Makes a plan of a text, up to the first FAULT. */
    private static final class Parser {
        private static final int AT_WORD = 0, AT_CELL = 1, AT_END = 2;
        private static final int CANNOT_STAND = 1, CELL_ABOVE = 2, TOO_MANY = 3;

        private int faultPlace = NONE;
        private int state = AT_WORD;
        private boolean stepWrites = false;

        /** The number of the FAULT, 0 if there is none. */
        int parse(Text text, Plan into) {
            into.clear();
            state = AT_WORD;
            for (int place = 0; place < text.length; place++) {
                int letter = text.letterAt(place);
                int number = letter == ' ' ? 0 : take(letter, into);
                if (number != 0) {
                    faultPlace = place;
                    return number;
                }
            }
            if (state != AT_WORD) {
                faultPlace = text.length;
                return CANNOT_STAND;
            }
            faultPlace = NONE;
            return 0;
        }

        private int take(int letter, Plan into) {
            if (state == AT_WORD) {
                return takeWord(letter, into);
            }
            if (state == AT_CELL) {
                return takeCell(letter, into);
            }
            if (letter != ';') {
                return CANNOT_STAND;
            }
            state = AT_WORD;
            return 0;
        }

        private int takeWord(int letter, Plan into) {
            if (letter == 't') {
                state = AT_END;
                return into.addThread() ? 0 : TOO_MANY;
            }
            if (letter != 'r' && letter != 'w' || into.threadCount == 0) {
                return CANNOT_STAND;
            }
            if (into.stepCount >= MOST_STEPS) {
                return TOO_MANY;
            }
            stepWrites = letter == 'w';
            state = AT_CELL;
            return 0;
        }

        private int takeCell(int letter, Plan into) {
            if (letter < '0' || letter > '9') {
                return CANNOT_STAND;
            }
            if (letter - '0' > LAST_CELL) {
                return CELL_ABOVE;
            }
            into.addStep(letter - '0', stepWrites);
            state = AT_END;
            return 0;
        }
    }

    /** THREADS and STEPS, as one text told them. */
    private static final class Plan {
        private final int[] threads = new int[MOST_STEPS];
        private final int[] cells = new int[MOST_STEPS];
        private int threadCount = 0;
        private int stepCount = 0;
        private int writers = 0;
        private int gaps = 0;

        void clear() {
            threadCount = 0;
            stepCount = 0;
            writers = 0;
            gaps = 0;
        }

        boolean addThread() {
            if (threadCount >= MOST_THREADS) {
                return false;
            }
            threadCount++;
            return true;
        }

        void addStep(int cell, boolean writes) {
            int s = stepCount;
            if (s < 0 || s >= threads.length || s >= cells.length) {
                return;
            }
            threads[s] = threadCount - 1;
            cells[s] = cell;
            stepCount++;
            if (writes) {
                writers |= 1 << s;
            }
            if (s > 0 && threadOf(s - 1) == threadOf(s)) {
                gaps |= 1 << s;
            }
        }

        boolean hasStep(int s) {
            return s >= 0 && s < stepCount;
        }

        boolean hasGap(int s) {
            return hasStep(s) && has(gaps, s);
        }

        int threadOf(int s) {
            return s >= 0 && s < threads.length ? threads[s] : NONE;
        }

        int cellOf(int s) {
            return s >= 0 && s < cells.length ? cells[s] : NONE;
        }

        boolean isWriter(int s) {
            return s >= 0 && s < MOST_STEPS && (writers >>> s & 1) != 0;
        }

        boolean isAhead(int s, int u) {
            return s < u && threadOf(s) == threadOf(u);
        }

        boolean areInConflict(int s, int u) {
            return threadOf(s) != threadOf(u) && cellOf(s) == cellOf(u) && (isWriter(s) || isWriter(u));
        }

        int conflictsOf(int s) {
            int set = 0;
            for (int u = 0; u < stepCount; u++) {
                if (areInConflict(s, u)) {
                    set |= 1 << u;
                }
            }
            return set;
        }

        /** Whether u may overtake s, which is ahead of it, FENCES aside. */
        boolean mayOvertake(int s, int u, int kinds) {
            return cellOf(s) != cellOf(u) && has(kinds, kindOf(s, u));
        }

        /** STEPS for which u must WAIT. */
        int waitsOf(int u, int fences, int kinds) {
            int set = 0;
            for (int s = 0; s < u && s < stepCount; s++) {
                boolean isFenced = (fences & gapsBetween(s, u)) != 0;
                if (isAhead(s, u) && (isFenced || !mayOvertake(s, u, kinds))) {
                    set |= 1 << s;
                }
            }
            return set;
        }

        private int kindOf(int s, int u) {
            if (isWriter(s)) {
                return isWriter(u) ? 1 : 0;
            }
            return isWriter(u) ? 3 : 2;
        }
    }

    /**
     * RINGS of a plan. What a THREAD gives to a ring is a GIFT: its first STEP
     * times 8 and its last STEP, the same one twice if it gives just one.
     */
    private static final class Rings {
        private static final int MOST_GIFTS = 36;

        private final int[] gifts = new int[MOST_GIFTS];
        private final int[] countOf = new int[MOST_STEPS * MOST_STEPS];
        private int giftCount = 0;
        private int count = 0;

        void find(Plan plan) {
            Arrays.fill(countOf, 0);
            count = 0;
            gatherGifts(plan);
            for (int i = 0; i < giftCount; i++) {
                for (int j = 0; j < giftCount; j++) {
                    findBegunWith(plan, giftAt(i), giftAt(j));
                }
            }
        }

        int countWith(int s, int u) {
            int gift = giftOf(s, u);
            return gift >= 0 && gift < countOf.length ? countOf[gift] : 0;
        }

        private void gatherGifts(Plan plan) {
            giftCount = 0;
            for (int s = 0; s < plan.stepCount; s++) {
                if (plan.isWriter(s)) {
                    addGift(giftOf(s, s));
                }
                for (int u = s + 1; u < plan.stepCount; u++) {
                    if (plan.isAhead(s, u) && plan.cellOf(s) != plan.cellOf(u)) {
                        addGift(giftOf(s, u));
                    }
                }
            }
        }

        private void addGift(int gift) {
            if (giftCount >= 0 && giftCount < gifts.length) {
                gifts[giftCount] = gift;
                giftCount++;
            }
        }

        /** A ring begins with its least THREAD, so that each is found once. */
        private void findBegunWith(Plan plan, int a, int b) {
            int least = plan.threadOf(firstOf(a));
            int second = plan.threadOf(firstOf(b));
            if (least >= second || !leadsTo(plan, a, b)) {
                return;
            }
            if (!isAlone(a) && !isAlone(b) && leadsTo(plan, b, a)) {
                count++;
                countGiven(a);
                countGiven(b);
            }
            for (int k = 0; k < giftCount; k++) {
                int c = giftAt(k);
                int third = plan.threadOf(firstOf(c));
                if (least < third && second != third && leadsTo(plan, b, c) && leadsTo(plan, c, a)) {
                    count++;
                    countGiven(a);
                    countGiven(b);
                    countGiven(c);
                }
            }
        }

        private boolean leadsTo(Plan plan, int a, int b) {
            int last = lastOf(a);
            int first = firstOf(b);
            if (!plan.areInConflict(last, first)) {
                return false;
            }
            // One that is given alone needs neighbours that read.
            return !(isAlone(a) && plan.isWriter(first)) && !(isAlone(b) && plan.isWriter(last));
        }

        private void countGiven(int gift) {
            if (gift >= 0 && gift < countOf.length) {
                countOf[gift]++;
            }
        }

        private int giftAt(int i) {
            return i >= 0 && i < gifts.length ? gifts[i] : 0;
        }

        private static int giftOf(int first, int last) {
            return first * MOST_STEPS + last;
        }

        private static int firstOf(int gift) {
            return gift / MOST_STEPS;
        }

        private static int lastOf(int gift) {
            return gift % MOST_STEPS;
        }

        private static boolean isAlone(int gift) {
            return firstOf(gift) == lastOf(gift);
        }
    }

    /** LOOSE PAIRS, each as the SET of GAPS that could HOLD it. */
    private static final class LoosePairs {
        private static final int MOST_PAIRS = 28;

        private final int[] holders = new int[MOST_PAIRS];
        private int count = 0;

        void gather(Plan plan, Rings rings, int kinds) {
            count = 0;
            for (int s = 0; s < plan.stepCount; s++) {
                for (int u = s + 1; u < plan.stepCount; u++) {
                    if (rings.countWith(s, u) > 0 && plan.mayOvertake(s, u, kinds)) {
                        add(gapsBetween(s, u));
                    }
                }
            }
        }

        int countHeld(int fences) {
            int held = 0;
            for (int i = 0; i < count; i++) {
                if ((holdersAt(i) & fences) != 0) {
                    held++;
                }
            }
            return held;
        }

        boolean areAllHeld(int fences) {
            return countHeld(fences) == count;
        }

        /** FENCES each of which alone HOLDS some LOOSE PAIR. */
        int neededOf(int fences) {
            int needed = 0;
            for (int i = 0; i < count; i++) {
                int holding = holdersAt(i) & fences;
                if (Integer.bitCount(holding) == 1) {
                    needed |= holding;
                }
            }
            return needed;
        }

        int cheapestSet(int gaps, Setting setting) {
            int cheapest = gaps;
            int least = setting.costOfSet(gaps);
            // Going up, and taking only what costs less, keeps the least of like ones.
            for (int set = 0; set <= gaps; set++) {
                if ((set & ~gaps) == 0 && setting.costOfSet(set) < least && areAllHeld(set)) {
                    cheapest = set;
                    least = setting.costOfSet(set);
                }
            }
            return cheapest;
        }

        private void add(int gaps) {
            if (count >= 0 && count < holders.length) {
                holders[count] = gaps;
                count++;
            }
        }

        private int holdersAt(int i) {
            return i >= 0 && i < holders.length ? holders[i] : 0;
        }
    }

    /** What deeds change: FENCES, COSTS, OVERTAKING (its KINDS). */
    private static final class Setting {
        private final int[] costs = new int[MOST_STEPS];
        private int fences;
        private int kinds;

        Setting() {
            clear();
        }

        void clear() {
            Arrays.fill(costs, 1);
            fences = 0;
            kinds = ALL_KINDS;
        }

        void copy(Setting from) {
            for (int gap = 0; gap < costs.length; gap++) {
                costs[gap] = from.costOf(gap);
            }
            fences = from.fences;
            kinds = from.kinds;
        }

        void setFence(int gap, boolean is) {
            fences = is ? fences | 1 << gap : fences & ~(1 << gap);
        }

        void setCost(int gap, int v) {
            if (gap >= 0 && gap < costs.length) {
                costs[gap] = v;
            }
        }

        int costOf(int gap) {
            return gap >= 0 && gap < costs.length ? costs[gap] : 0;
        }

        int costOfSet(int gaps) {
            int sum = 0;
            for (int gap = 0; gap < costs.length; gap++) {
                if (has(gaps, gap)) {
                    sum += costs[gap];
                }
            }
            return sum;
        }
    }

    /** Settings ahead of the latest deeds, in a round: the oldest makes room. */
    private static final class History {
        private final Setting[] settings;
        private int oldest;
        private int count;

        History() {
            settings = new Setting[MOST_TIMES];
            for (int i = 0; i < settings.length; i++) {
                settings[i] = new Setting();
            }
            oldest = 0;
            count = 0;
        }

        void clear() {
            oldest = 0;
            count = 0;
        }

        void add(Setting before) {
            settingAt(count).copy(before);
            if (count < MOST_TIMES) {
                count++;
            } else {
                oldest = (oldest + 1) % MOST_TIMES;
            }
        }

        void takeBack(int n, Setting into) {
            if (n < 1 || n > count) {
                return;
            }
            count -= n;
            into.copy(settingAt(count));
        }

        private Setting settingAt(int i) {
            int place = Math.floorMod(oldest + i, MOST_TIMES);
            return settings[place < settings.length ? place : 0];
        }
    }

    /** An IMAGE to go back to. */
    private static final class Image {
        private final Setting setting = new Setting();
        private int seedThen = 0;
        private boolean isKept = false;

        void hold(Setting from, int seedOfIt) {
            setting.copy(from);
            seedThen = seedOfIt;
            isKept = true;
        }
    }

    /** THE BOOK. */
    private static final class Book {
        private final int[] numbers = new int[MOST_ENTRIES];
        private int thatCan = 0;
        private int count = 0;

        void clear() {
            thatCan = 0;
            count = 0;
        }

        boolean add(int number, boolean isReading) {
            if (count < 0 || count >= numbers.length) {
                return false;
            }
            numbers[count] = number;
            if (isReading) {
                thatCan |= 1 << count;
            }
            count++;
            return true;
        }

        int firstWrong(ReadingList readings) {
            for (int i = 0; i < count && i < numbers.length; i++) {
                if (readings.holds(numbers[i]) != has(thatCan, i)) {
                    return i;
                }
            }
            return NONE;
        }
    }

    /** Unlike readings, the least first. */
    private static final class ReadingList {
        // 225 are the most that eight steps can have.
        private static final int MOST_READINGS = 256;

        private final int[] numbers = new int[MOST_READINGS];
        private int count = 0;

        void clear() {
            count = 0;
        }

        void add(int number) {
            int place = placeOf(number);
            if (at(place) == number || place < 0 || place > count || count >= numbers.length) {
                return;
            }
            for (int i = count; i > place; i--) {
                numbers[i] = numbers[i - 1];
            }
            numbers[place] = number;
            count++;
        }

        /** The i-th, NONE if there are not so many. */
        int at(int i) {
            return i >= 0 && i < count && i < numbers.length ? numbers[i] : NONE;
        }

        boolean holds(int number) {
            return number >= 0 && at(placeOf(number)) == number;
        }

        int countWithout(ReadingList others) {
            int left = 0;
            for (int i = 0; i < count; i++) {
                if (!others.holds(at(i))) {
                    left++;
                }
            }
            return left;
        }

        /** The i-th of those that the others do not hold. */
        int atWithout(int i, ReadingList others) {
            int left = 0;
            for (int k = 0; k < count; k++) {
                if (!others.holds(at(k))) {
                    if (left == i) {
                        return at(k);
                    }
                    left++;
                }
            }
            return NONE;
        }

        /** How many are less than the number. */
        private int placeOf(int number) {
            int from = 0;
            int to = count;
            for (int rounds = 0; from < to && rounds < MOST_READINGS; rounds++) {
                int middle = (from + to) / 2;
                if (at(middle) < number) {
                    from = middle + 1;
                } else {
                    to = middle;
                }
            }
            return from;
        }
    }

    /**
     * Does the steps of a plan in every order that is left. Orders that have
     * done the same steps, left the same in the cells and read the same go on
     * alike, so one STATE stands for all of them: the SET of steps done, then
     * four bits for each cell, then the reading so far.
     */
    private static final class Orders {
        // 324 are the most unlike states behind any number of steps.
        private static final int MOST_STATES = 512;
        private static final int SLOTS = 1024;
        private static final int SLOT_BITS = 10;
        private static final long MIXER = -7046029254386353131L;
        private static final int DONE = 255;
        private static final int CELLS_FROM = 8;
        private static final int READING_FROM = 20;

        private long[] states = new long[MOST_STATES];
        private long[] nextStates = new long[MOST_STATES];
        private final int[] slots = new int[SLOTS];
        private final int[] waits = new int[MOST_STEPS];
        private final int[] weights = new int[MOST_STEPS];
        private int count = 0;
        private int nextCount = 0;

        void findReadings(Plan plan, int fences, int kinds, ReadingList into) {
            weigh(plan);
            for (int s = 0; s < plan.stepCount && s < waits.length; s++) {
                waits[s] = plan.waitsOf(s, fences, kinds);
            }
            states[0] = 0;
            count = 1;
            for (int done = 0; done < plan.stepCount; done++) {
                doOneMore(plan);
            }
            into.clear();
            for (int i = 0; i < count && i < states.length; i++) {
                into.add((int) (states[i] >>> READING_FROM));
            }
        }

        /** What a figure counts in the reading: that of the last reader 1. */
        private void weigh(Plan plan) {
            int weight = 1;
            for (int s = weights.length - 1; s >= 0; s--) {
                weights[s] = weight;
                if (plan.hasStep(s) && !plan.isWriter(s)) {
                    weight *= 9;
                }
            }
        }

        private void doOneMore(Plan plan) {
            Arrays.fill(slots, 0);
            nextCount = 0;
            for (int i = 0; i < count && i < states.length; i++) {
                doEach(plan, states[i]);
            }
            long[] old = states;
            states = nextStates;
            nextStates = old;
            count = nextCount;
        }

        private void doEach(Plan plan, long state) {
            int left = ~(int) state & DONE;
            for (int s = 0; s < plan.stepCount && s < waits.length; s++) {
                if (has(left, s) && (waits[s] & left) == 0) {
                    addNext(behind(plan, state, s));
                }
            }
        }

        private long behind(Plan plan, long state, int s) {
            long stateDone = state | 1L << s;
            int shift = CELLS_FROM + 4 * plan.cellOf(s);
            if (plan.isWriter(s)) {
                return stateDone & ~(15L << shift) | (long) (s + 1) << shift;
            }
            int weight = s >= 0 && s < weights.length ? weights[s] : 0;
            long seen = state >>> shift & 15L;
            return stateDone + (seen * weight << READING_FROM);
        }

        private void addNext(long state) {
            int slot = (int) ((state * MIXER) >>> (64 - SLOT_BITS));
            for (int tries = 0; tries < SLOTS; tries++) {
                int at = (slot + tries) & (SLOTS - 1);
                int held = slots[at] - 1;
                if (held < 0 || held >= nextStates.length) {
                    putNext(at, state);
                    return;
                }
                if (nextStates[held] == state) {
                    return;
                }
            }
        }

        private void putNext(int at, long state) {
            if (nextCount >= 0 && nextCount < nextStates.length && at >= 0 && at < slots.length) {
                nextStates[nextCount] = state;
                nextCount++;
                slots[at] = nextCount;
            }
        }
    }
}
