import java.io.IOException;
import java.math.BigInteger;
import java.util.Arrays;

/** Boundaries of deeds, the book, the seed and images, and all refusals: Terms, part 3, and promises 10 to 20. */
public final class BoundaryDeedTests {
    private static final int MOST_DEEDS = 20;
    private static final int LAST_NUMBER = 43046720;

    /** What drawn deeds must leave, found with whole numbers of any length. */
    private static final class Drawn {
        private static final BigInteger TIMES = BigInteger.valueOf(1103515245), MORE = BigInteger.valueOf(12345);

        BigInteger seed;
        int fences = 0;
        int overtaking = 15;
        final int[] costs = {1, 1, 1, 1, 1, 1, 1, 1};
        /** How often each of what may come by a draw came. */
        int put = 0, taken = 0, without = 0, leastCost = 0, mostCost = 0, noneOvertakes = 0, allOvertake = 0;

        Drawn(int seed) {
            this.seed = BigInteger.valueOf(seed);
        }

        int draw(int n) {
            seed = seed.multiply(TIMES).add(MORE).mod(BigInteger.ONE.shiftLeft(31));
            return seed.divide(BigInteger.valueOf(65536)).mod(BigInteger.valueOf(n)).intValue();
        }

        void once(int steps, int gaps) {
            int deed = draw(4), s = draw(steps), third = draw(9), fourth = draw(16);
            boolean isGap = (gaps >> s & 1) != 0;
            if (deed == 3) {
                overtaking = fourth;
                noneOvertakes += fourth == 0 ? 1 : 0;
                allOvertake += fourth == 15 ? 1 : 0;
            } else if (!isGap) {
                without++;
            } else if (deed == 2) {
                costs[s] = third + 1;
                leastCost += third == 0 ? 1 : 0;
                mostCost += third == 8 ? 1 : 0;
            } else {
                fences ^= 1 << s;
                put += fences >> s & 1;
                taken += 1 - (fences >> s & 1);
            }
        }
    }

    public static void main(String[] args) throws IOException {
        Bench.begin("BoundaryDeedTests", args);
        constants();
        firstRefusal();
        refusedChangesNothing();
        fence();
        cost();
        overtaking();
        best();
        seedAtFirst();
        drawnWrapAround();
        drawnDeeds();
        drawnWithoutSteps();
        drift();
        undoneKept();
        undoneIsAhead();
        undoneSeedStays();
        undo();
        bookAtMost();
        wrong();
        write();
        tear();
        seed();
        images();
        keep();
        goBack();
        Bench.end();
    }

    private static void due(String call, long got, long want) {
        Bench.due(call, got, want);
    }

    private static void constants() {
        Bench.sentence("public static final int NONE = -1, UNKNOWN = -1000000001, OUTSIDE = -1000000002, "
            + "NOT = -1000000003, FULL = -1000000004;");
        due("NONE", FenceWays.NONE, -1);
        due("UNKNOWN", FenceWays.UNKNOWN, -1000000001);
        due("OUTSIDE", FenceWays.OUTSIDE, -1000000002);
        due("NOT", FenceWays.NOT, -1000000003);
        due("FULL", FenceWays.FULL, -1000000004);
    }

    private static void firstRefusal() {
        Bench.sentence("REFUSALS, of several the first in this order:");
        FenceWays x = Bench.full();
        due("feed: OUTSIDE, FULL", x.feed(256), Bench.OUTSIDE);
        due("feed: OUTSIDE, FULL", x.feed(-1), Bench.OUTSIDE);
        due("feed: FULL", x.feed(32), Bench.FULL);
        due("step: UNKNOWN, OUTSIDE", x.step(5, 7), Bench.UNKNOWN);
        due("step: UNKNOWN, OUTSIDE", x.step(-1, -1), Bench.UNKNOWN);
        due("pair: UNKNOWN, OUTSIDE", x.pair(0, 5, 4), Bench.UNKNOWN);
        due("pair: UNKNOWN, OUTSIDE", x.pair(-1, 0, -1), Bench.UNKNOWN);
        due("pair: UNKNOWN (twice), OUTSIDE", x.pair(3, 3, 4), Bench.UNKNOWN);
        due("pair: UNKNOWN, NOT", x.pair(5, 0, 0), Bench.UNKNOWN);
        due("pair: UNKNOWN (twice), NOT", x.pair(2, 2, 0), Bench.UNKNOWN);
        due("pair: OUTSIDE, NOT", x.pair(1, 0, 4), Bench.OUTSIDE);
        due("pair: OUTSIDE, NOT", x.pair(0, 2, -1), Bench.OUTSIDE);
        due("pair: NOT", x.pair(1, 0, 3), Bench.NOT);
        due("cost: UNKNOWN, OUTSIDE", x.cost(0, 0), Bench.UNKNOWN);
        due("cost: UNKNOWN, OUTSIDE", x.cost(5, 10), Bench.UNKNOWN);
        due("undo: OUTSIDE, NOT", x.undo(21), Bench.OUTSIDE);
        due("undo: OUTSIDE, NOT", new FenceWays().undo(0), Bench.OUTSIDE);
        due("undo: NOT", x.undo(20), Bench.NOT);
        due("write: OUTSIDE, FULL", x.write(-1, true), Bench.OUTSIDE);
        due("write: OUTSIDE, FULL", x.write(LAST_NUMBER + 1, false), Bench.OUTSIDE);
        due("write: FULL", x.write(0, true), Bench.FULL);
        due("goBack: UNKNOWN, NOT", new FenceWays().goBack(2), Bench.UNKNOWN);
        due("goBack: UNKNOWN, NOT", new FenceWays().goBack(-1), Bench.UNKNOWN);
    }

    private static void refusedChangesNothing() {
        Bench.sentence("What is refused changes nothing.");
        refusedInRich();
        String want = Bench.whole(Bench.full());
        FenceWays x = Bench.full();
        due("feed(';') of a full text", x.feed(';'), Bench.FULL);
        due("feed('x') of a full text", x.feed('x'), Bench.FULL);
        Bench.alike("feed() of a full text", Bench.whole(x), want);
        x = Bench.full();
        due("write(0, false) in a full book", x.write(0, false), Bench.FULL);
        due("write(5, true) in a full book", x.write(5, true), Bench.FULL);
        Bench.alike("write() in a full book", Bench.whole(x), want);
        // No image kept, nothing to undo.
        x = Bench.made(Bench.CROSSED);
        due("goBack(0)", x.goBack(0), Bench.NOT);
        due("goBack(1)", x.goBack(1), Bench.NOT);
        due("undo(1)", x.undo(1), Bench.NOT);
        Bench.alike("goBack(), undo()", Bench.whole(x), Bench.whole(Bench.made(Bench.CROSSED)));
    }

    /** Each refused call by itself, on an object of its own. */
    private static void refusedInRich() {
        String want = Bench.whole(Bench.rich());
        for (int call = 0; call < 24; call++) {
            FenceWays x = Bench.rich();
            due("refused call " + call, refusal(x, call), refusalDue(call));
            Bench.alike("refused call " + call, Bench.whole(x), want);
        }
    }

    private static int refusal(FenceWays x, int call) {
        switch (call) {
            case 0: return x.feed(-1);
            case 1: return x.feed(256);
            case 2: return x.seed(-1);
            case 3: return x.seed(Bench.LEAST);
            case 4: return x.fence(0, true);
            case 5: return x.fence(2, false);
            case 6: return x.fence(5, true);
            case 7: return x.cost(2, 5);
            case 8: return x.cost(5, 5);
            case 9: return x.cost(3, 0);
            case 10: return x.cost(3, 10);
            case 11: return x.overtaking(-1);
            case 12: return x.overtaking(16);
            case 13: return x.drift(0);
            case 14: return x.drift(21);
            case 15: return x.undo(0);
            case 16: return x.undo(21);
            case 17: return x.undo(7);
            case 18: return x.write(-1, true);
            case 19: return x.write(LAST_NUMBER + 1, true);
            case 20: return x.keep(-1);
            case 21: return x.keep(2);
            case 22: return x.goBack(-1);
            default: return x.goBack(2);
        }
    }

    private static int refusalDue(int call) {
        if (call == 17) {
            return Bench.NOT;
        }
        return call >= 4 && call <= 8 || call >= 20 ? Bench.UNKNOWN : Bench.OUTSIDE;
    }

    private static void fence() {
        Bench.sentence("A FENCE stands in a GAP, or not: COST of all together. UNKNOWN.");
        FenceWays x = Bench.made(Bench.LONG);
        due("fence(0, true)", x.fence(0, true), Bench.UNKNOWN);
        due("fence(8, true)", x.fence(8, true), Bench.UNKNOWN);
        for (int gap : new int[] {-1, Bench.LEAST, Bench.MOST, 32, 33, 39, -31}) {
            due("fence(" + gap + ", true)", x.fence(gap, true), Bench.UNKNOWN);
            due("fence(" + gap + ", false)", x.fence(gap, false), Bench.UNKNOWN);
        }
        due("no deeds by that", x.told(18), 0);
        x.cost(7, 9);
        due("fence(1, true)", x.fence(1, true), 1);
        due("fence(7, true)", x.fence(7, true), 10);
        due("fence(7, true) again", x.fence(7, true), 10);
        due("fences", x.told(4), 130);
        due("fence(1, false)", x.fence(1, false), 9);
        due("fence(1, false) again", x.fence(1, false), 9);
        due("fence(7, false)", x.fence(7, false), 0);
        due("fences", x.told(4), 0);
        due("each is a deed", x.told(18), 7);
        FenceWays y = Bench.made("t;w0;t;w0;w0;");
        readingsWithFences();
        due("a second thread's first step", y.fence(1, true), Bench.UNKNOWN);
        due("a second thread's second step", y.fence(2, true), 1);
    }

    private static void readingsWithFences() {
        FenceWays x = Bench.made(Bench.CROSSED);
        for (int round = 0; round < 2; round++) {
            due("readings without fences", x.told(6), 4);
            x.fence(1, true);
            due("readings with one", x.told(6), 4);
            x.fence(3, true);
            due("readings with both", x.told(6), 3);
            x.undo(2);
            due("readings with both undone", x.told(6), 4);
            x.best();
            due("readings with the best", x.told(6), 3);
            x.fence(3, false);
            due("readings with one taken", x.told(6), 4);
            x.fence(1, false);
        }
    }

    private static void cost() {
        Bench.sentence("COST of a GAP (1 .. 9): what it was. UNKNOWN, OUTSIDE.");
        FenceWays x = Bench.made(Bench.LONG);
        for (int gap : new int[] {-1, 0, 8, Bench.LEAST, Bench.MOST, 33}) {
            due("cost(" + gap + ", 5)", x.cost(gap, 5), Bench.UNKNOWN);
        }
        for (int v : new int[] {0, 10, -1, Bench.LEAST, Bench.MOST}) {
            due("cost(1, " + v + ")", x.cost(1, v), Bench.OUTSIDE);
        }
        due("as it was", x.step(1, 3), 1);
        due("no deeds by that", x.told(18), 0);
        due("cost(1, 9)", x.cost(1, 9), 1);
        due("cost(1, 1)", x.cost(1, 1), 9);
        due("cost(7, 9)", x.cost(7, 9), 1);
        due("cost(7, 9) again", x.cost(7, 9), 9);
        due("another gap's", x.step(6, 3), 1);
        due("each is a deed", x.told(18), 4);
        x.fence(7, true);
        x.cost(7, 3);
        due("a fence costs what its gap does", x.told(5), 3);
    }

    private static void overtaking() {
        Bench.sentence("OVERTAKING (a SET of 4): READINGS then. OUTSIDE.");
        FenceWays x = Bench.made(Bench.CROSSED);
        for (int set : new int[] {-1, 16, Bench.LEAST, Bench.MOST, 31}) {
            due("overtaking(" + set + ")", x.overtaking(set), Bench.OUTSIDE);
            due("told(3)", x.told(3), 15);
        }
        due("no deeds by that", x.told(18), 0);
        due("overtaking(0)", x.overtaking(0), 3);
        due("told(3)", x.told(3), 0);
        due("overtaking(15)", x.overtaking(15), 4);
        due("told(3)", x.told(3), 15);
        due("overtaking(15) again", x.overtaking(15), 4);
        due("each is a deed", x.told(18), 3);
        due("overtaking(5) of nothing", new FenceWays().overtaking(5), 1);
    }

    private static void best() {
        Bench.sentence("FENCES are BEST: their COST.");
        FenceWays x = Bench.made(Bench.CROSSED);
        x.cost(1, 9);
        x.cost(3, 9);
        due("best() for the most", x.best(), 18);
        due("fences", x.told(4), 10);
        due("best() again", x.best(), 18);
        x.overtaking(0);
        due("best() with nothing loose", x.best(), 0);
        due("fences are taken", x.told(4), 0);
        due("each is a deed", x.told(18), 6);
        due("undo(1)", x.undo(1), 5);
        due("fences are put back", x.told(4), 10);
        FenceWays y = new FenceWays();
        due("best() of nothing", y.best(), 0);
        due("a deed of nothing", y.told(18), 1);
    }

    private static void seedAtFirst() {
        Bench.sentence("THE SEED (0 at first:");
        due("seed(0)", new FenceWays().seed(0), 0);
        FenceWays x = Bench.made("t;r0;");
        x.drift(1);
        Drawn y = new Drawn(0);
        y.once(1, 0);
        due("behind four draws from 0", x.seed(0), y.seed.intValue());
    }

    private static void drawnWrapAround() {
        Bench.sentence("each DRAW it becomes it times 1103515245 and 12345, left over by 2 to the 31; "
            + "the DRAW of n is it / 65536, left over by n)");
        int[] seeds = {0, 1, 2, 65535, 65536, 1073741823, 1073741824, 2147483646, Bench.MOST};
        for (int seed : seeds) {
            FenceWays x = Bench.made(Bench.LONG);
            Drawn y = new Drawn(seed);
            x.seed(seed);
            for (int i = 0; i < 10; i++) {
                y.once(8, 254);
                due("drift(1) from " + seed, x.drift(1), y.fences);
                due("the seed from " + seed, Bench.seedOf(x), y.seed.intValue());
                due("overtaking from " + seed, x.told(3), y.overtaking);
            }
        }
    }

    private static void drawnDeeds() {
        Bench.sentence("on 0, 1, if that STEP has a GAP, a FENCE is put there, if there is none, else taken; "
            + "on 2, if it has a GAP, its COST is the third and 1; on 3 OVERTAKING is the fourth.");
        drawnIn("t;w0;r1;r2;t;w1;r0;t;w2;r0;r1;", 8, 2 + 4 + 16 + 64 + 128, 5);
        drawnIn("t;w0;r1;t;w1;", 3, 2, 100);
        drawnIn("t;t;w0;t;", 1, 0, 1000);
    }

    private static void drawnIn(String text, int steps, int gaps, int seed) {
        Drawn y = new Drawn(seed);
        for (int round = 0; round < 30; round++) {
            FenceWays x = Bench.made(text);
            int from = y.seed.intValue();
            x.seed(from);
            y.fences = 0;
            y.overtaking = 15;
            Arrays.fill(y.costs, 1);
            for (int time = 1; time <= 22; time++) {
                y.once(steps, gaps);
                due("drift(1) from " + from, x.drift(1), y.fences);
                due("overtaking from " + from, x.told(3), y.overtaking);
                due("deeds from " + from, x.told(18), Math.min(time, MOST_DEEDS));
                for (int s = 0; s < steps; s++) {
                    due("cost from " + from, x.step(s, 3), (gaps >> s & 1) != 0 ? y.costs[s] : Bench.NONE);
                }
            }
        }
        boolean all = y.without > 0 && y.noneOvertakes > 0 && y.allOvertake > 0;
        boolean allWithGaps = y.put > 0 && y.taken > 0 && y.leastCost > 0 && y.mostCost > 0;
        due("all that may come by draws came", all && (gaps == 0 || allWithGaps) ? 1 : 0, 1);
    }

    private static void drawnWithoutSteps() {
        Bench.sentence("n times, if there are STEPS:");
        for (String text : new String[] {"", "t;", "t;t;t;"}) {
            FenceWays x = Bench.made(text);
            x.seed(99);
            due("drift(1)", x.drift(1), 0);
            due("drift(20)", x.drift(20), 0);
            due("drift(21)", x.drift(21), Bench.OUTSIDE);
            due("overtaking", x.told(3), 15);
            due("nothing was done", x.told(18), 0);
            due("nothing was drawn", x.seed(0), 99);
        }
    }

    private static void drift() {
        Bench.sentence("n times BY DRAWS (1 .. 20): FENCES (a SET). OUTSIDE.");
        for (int n : new int[] {0, 21, -1, Bench.LEAST, Bench.MOST}) {
            FenceWays x = Bench.made(Bench.LONG);
            due("drift(" + n + ")", x.drift(n), Bench.OUTSIDE);
            due("no deeds", x.told(18), 0);
            due("no draws", x.seed(0), 0);
        }
        for (int n : new int[] {1, 2, 19, 20}) {
            FenceWays x = Bench.made(Bench.LONG);
            Drawn y = new Drawn(0);
            for (int i = 0; i < n; i++) {
                y.once(8, 254);
            }
            due("drift(" + n + ")", x.drift(n), y.fences);
            due("fences", x.told(4), y.fences);
            due("deeds", x.told(18), n);
            due("the seed", x.seed(0), y.seed.intValue());
        }
        FenceWays x = Bench.made(Bench.LONG);
        x.cost(1, 2);
        x.drift(20);
        due("deeds that are kept", x.told(18), MOST_DEEDS);
    }

    private static void undoneKept() {
        Bench.sentence("since the text or IMAGE (20 at most are kept)");
        for (int deeds : new int[] {1, 19, 20, 21, 39, 40, 41, 60}) {
            FenceWays x = Bench.made(Bench.LONG);
            int[] was = new int[deeds];
            for (int i = 0; i < deeds; i++) {
                was[i] = x.cost(1 + i % 7, 1 + i * 5 % 9);
                due("deed " + i, x.told(18), Math.min(i + 1, MOST_DEEDS));
            }
            int kept = Math.min(deeds, MOST_DEEDS);
            for (int i = 0; i < kept; i++) {
                int latest = deeds - 1 - i;
                due("undo(1) of " + deeds, x.undo(1), kept - 1 - i);
                due("as ahead of deed " + latest, x.step(1 + latest % 7, 3), was[latest]);
            }
            due("no more", x.undo(1), Bench.NOT);
        }
        FenceWays x = Bench.made(Bench.LONG);
        x.fence(1, true);
        x.keep(0);
        x.fence(2, true);
        due("since the image", x.told(18), 1);
        x.goBack(0);
        due("since it came back", x.told(18), 0);
        x.fence(3, true);
        Bench.tell(x, "t;w0;w0;");
        due("since the text", x.told(18), 0);
    }

    private static void undoneIsAhead() {
        Bench.sentence("FENCES, COSTS, OVERTAKING are as ahead of them;");
        FenceWays x = Bench.made("t;w0;r1;t;w1;r0;w2;");
        String[] ahead = new String[10];
        x.seed(4);
        for (int i = 0; i < ahead.length; i++) {
            ahead[i] = Bench.setting(x);
            deed(x, i);
        }
        for (int i = ahead.length - 1; i >= 0; i--) {
            due("undo(1)", x.undo(1), i);
            due("all is as ahead of deed " + i, Bench.setting(x).equals(ahead[i]) ? 1 : 0, 1);
        }
        // A deed behind an undone one takes its place.
        x.fence(1, true);
        x.fence(3, true);
        x.undo(1);
        x.cost(4, 6);
        due("undo(1)", x.undo(1), 1);
        due("fences", x.told(4), 2);
        due("cost", x.step(4, 3), 1);
        due("readings of what is undone", x.overtaking(0), 3);
        x.undo(1);
        due("readings as ahead of it", x.told(6), 4);
    }

    private static void deed(FenceWays x, int i) {
        switch (i % 5) {
            case 0: x.fence(1 + i % 2 * 2, true); break;
            case 1: x.cost(4, 2 + i); break;
            case 2: x.overtaking(i); break;
            case 3: x.drift(1); break;
            default: x.best();
        }
    }

    private static void undoneSeedStays() {
        Bench.sentence("are as ahead of them; THE SEED stays.");
        FenceWays x = Bench.made(Bench.CROSSED);
        x.drift(20);
        int seed = Bench.seedOf(x);
        due("undo(20)", x.undo(20), 0);
        due("fences", x.told(4), 0);
        due("overtaking", x.told(3), 15);
        due("the seed", x.seed(8), seed);
        x.fence(1, true);
        x.seed(9);
        due("undo(1)", x.undo(1), 0);
        due("the seed", x.seed(0), 9);
    }

    private static void undo() {
        Bench.sentence("The n latest (1 .. 20) are undone: how many more can be. OUTSIDE, NOT: not so many.");
        FenceWays x = Bench.made(Bench.CROSSED);
        due("undo(1) of none", x.undo(1), Bench.NOT);
        due("undo(20) of none", x.undo(20), Bench.NOT);
        for (int n : new int[] {0, 21, -1, Bench.LEAST, Bench.MOST}) {
            due("undo(" + n + ")", x.undo(n), Bench.OUTSIDE);
        }
        x.fence(1, true);
        x.fence(3, true);
        x.cost(1, 5);
        due("undo(4) of three", x.undo(4), Bench.NOT);
        due("fences", x.told(4), 10);
        due("can be undone", x.told(18), 3);
        due("undo(3) of three", x.undo(3), 0);
        due("fences", x.told(4), 0);
        for (int i = 1; i <= 21; i++) {
            x.overtaking(i % 16);
        }
        due("undo(21) of twenty-one", x.undo(21), Bench.OUTSIDE);
        due("undo(20)", x.undo(20), 0);
        due("as ahead of the second", x.told(3), 1);
        x.overtaking(2);
        x.overtaking(3);
        x.overtaking(4);
        due("undo(2)", x.undo(2), 1);
        due("overtaking", x.told(3), 2);
    }

    private static void bookAtMost() {
        Bench.sentence("THE BOOK (20 at most) tells a number (0 .. 43046720) and whether it is a READING:");
        FenceWays x = Bench.made(Bench.CROSSED);
        for (int many = 1; many <= 20; many++) {
            due("write(0, true)", x.write(0, true), many);
            due("told(16)", x.told(16), many);
        }
        due("write(0, true) too many", x.write(0, true), Bench.FULL);
        due("told(16)", x.told(16), 20);
        due("none is wrong", x.told(17), Bench.NONE);
    }

    private static void wrong() {
        Bench.sentence("WRONG: the first that is otherwise now; NONE.");
        FenceWays x = Bench.made(Bench.CROSSED);
        due("an empty book", x.told(17), Bench.NONE);
        for (int i = 0; i < 19; i++) {
            x.write(i % 2 == 0 ? 28 : 29, i % 2 == 0);
        }
        due("none of nineteen", x.told(17), Bench.NONE);
        x.write(0, true);
        due("none of twenty", x.told(17), Bench.NONE);
        x.overtaking(0);
        due("the last", x.told(17), 19);
        x.undo(1);
        due("none again", x.told(17), Bench.NONE);
        x.tear();
        x.write(28, false);
        x.write(29, true);
        due("the first", x.told(17), 0);
        FenceWays y = Bench.made(Bench.CROSSED);
        y.write(LAST_NUMBER, false);
        y.write(29, true);
        y.write(28, false);
        due("the second", y.told(17), 1);
        y.tear();
        y.write(LAST_NUMBER, true);
        due("the largest number", y.told(17), 0);
        // A stray one is a reading too.
        y.tear();
        y.write(0, false);
        due("a stray one", y.told(17), 0);
    }

    private static void write() {
        Bench.sentence("An entry behind THE BOOK: how many. OUTSIDE, FULL (20).");
        FenceWays x = new FenceWays();
        for (int number : new int[] {-1, LAST_NUMBER + 1, Bench.LEAST, Bench.MOST}) {
            due("write(" + number + ", true)", x.write(number, true), Bench.OUTSIDE);
            due("told(16)", x.told(16), 0);
        }
        due("write(0, true)", x.write(0, true), 1);
        due("write(" + LAST_NUMBER + ", false)", x.write(LAST_NUMBER, false), 2);
        due("none is wrong", x.told(17), Bench.NONE);
        due("no deed", x.told(18), 0);
        x.keep(0);
        x.write(7, true);
        x.goBack(0);
        due("images have no book", x.told(16), 3);
    }

    private static void tear() {
        Bench.sentence("No BOOK: how much it had.");
        FenceWays x = Bench.made(Bench.CROSSED);
        due("tear() of none", x.tear(), 0);
        x.write(29, true);
        due("tear() of one", x.tear(), 1);
        due("told(16)", x.told(16), 0);
        due("told(17)", x.told(17), Bench.NONE);
        for (int i = 0; i < 20; i++) {
            x.write(29, true);
        }
        due("tear() of twenty", x.tear(), 20);
        due("tear() again", x.tear(), 0);
        for (int many = 1; many <= 20; many++) {
            due("write(29, false) anew", x.write(29, false), many);
        }
        due("nothing of the old book", x.told(17), Bench.NONE);
        due("no deed", x.told(18), 0);
    }

    private static void seed() {
        Bench.sentence("THE SEED becomes v (0 .. 2147483647): what it was. OUTSIDE.");
        FenceWays x = new FenceWays();
        due("seed(5)", x.seed(5), 0);
        due("seed(-1)", x.seed(-1), Bench.OUTSIDE);
        due("seed(LEAST)", x.seed(Bench.LEAST), Bench.OUTSIDE);
        due("seed(MOST)", x.seed(Bench.MOST), 5);
        due("seed(0)", x.seed(0), Bench.MOST);
        due("seed(1)", x.seed(1), 0);
        due("no deed", x.told(18), 0);
    }

    private static void images() {
        Bench.sentence("IMAGES 0, 1 keep FENCES, COSTS, OVERTAKING, THE SEED.");
        FenceWays x = Bench.made("t;w0;r1;t;w1;r0;w2;");
        x.seed(11);
        x.fence(1, true);
        x.cost(3, 8);
        x.overtaking(3);
        x.keep(0);
        String first = Bench.setting(x);
        x.seed(Bench.MOST);
        x.fence(1, false);
        x.fence(4, true);
        x.cost(3, 9);
        x.cost(1, 2);
        x.overtaking(0);
        x.keep(1);
        String second = Bench.setting(x);
        x.seed(0);
        x.drift(20);
        due("goBack(0)", x.goBack(0), 1);
        due("all is as then", Bench.setting(x).equals(first) ? 1 : 0, 1);
        due("the seed", x.seed(3), 11);
        due("readings", x.told(6), 4);
        due("goBack(1)", x.goBack(1), 1);
        due("all is as then", Bench.setting(x).equals(second) ? 1 : 0, 1);
        due("the seed", x.seed(3), Bench.MOST);
        due("readings", x.told(6), 3);
        // What is done behind an image does not change it.
        x.fence(1, true);
        x.cost(4, 5);
        due("goBack(1)", x.goBack(1), 1);
        due("all is as then", Bench.setting(x).equals(second) ? 1 : 0, 1);
        due("goBack(0)", x.goBack(0), 1);
        due("all is as then", Bench.setting(x).equals(first) ? 1 : 0, 1);
    }

    private static void keep() {
        Bench.sentence("IMAGE i becomes what is so (nothing can be undone then): 1. UNKNOWN.");
        FenceWays x = Bench.made(Bench.CROSSED);
        for (int i : new int[] {-1, 2, Bench.LEAST, Bench.MOST}) {
            due("keep(" + i + ")", x.keep(i), Bench.UNKNOWN);
        }
        due("goBack(0)", x.goBack(0), Bench.NOT);
        x.fence(1, true);
        due("keep(2)", x.keep(2), Bench.UNKNOWN);
        due("can be undone", x.told(18), 1);
        due("keep(0)", x.keep(0), 1);
        due("nothing can be undone", x.told(18), 0);
        due("undo(1)", x.undo(1), Bench.NOT);
        due("goBack(1) is not kept by that", x.goBack(1), Bench.NOT);
        x.fence(3, true);
        due("keep(0) again", x.keep(0), 1);
        x.fence(1, false);
        x.goBack(0);
        due("the latest counts", x.told(4), 10);
        due("keep(1)", x.keep(1), 1);
        FenceWays y = new FenceWays();
        due("keep(1) of nothing", y.keep(1), 1);
        due("goBack(1) to nothing", y.goBack(1), 1);
        due("goBack(0)", y.goBack(0), Bench.NOT);
    }

    private static void goBack() {
        Bench.sentence("What is so becomes IMAGE i (nothing can be undone then): 1. UNKNOWN, NOT: it was not kept.");
        FenceWays x = Bench.made(Bench.CROSSED);
        for (int i : new int[] {-1, 2, Bench.LEAST, Bench.MOST}) {
            due("goBack(" + i + ")", x.goBack(i), Bench.UNKNOWN);
        }
        due("goBack(0)", x.goBack(0), Bench.NOT);
        due("goBack(1)", x.goBack(1), Bench.NOT);
        x.keep(1);
        x.fence(1, true);
        due("goBack(0)", x.goBack(0), Bench.NOT);
        due("can be undone", x.told(18), 1);
        due("fences", x.told(4), 2);
        due("goBack(1)", x.goBack(1), 1);
        due("nothing can be undone", x.told(18), 0);
        due("undo(1)", x.undo(1), Bench.NOT);
        due("fences", x.told(4), 0);
        due("goBack(1) again", x.goBack(1), 1);
        Bench.tell(x, "t;r3;");
        due("goBack(1) behind a fault", x.goBack(1), 1);
        Bench.tell(x, Bench.CROSSED);
        due("goBack(1) behind a text", x.goBack(1), Bench.NOT);
    }
}
