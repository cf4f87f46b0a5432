/** Each promise of the document, with ordinary inputs, its edges and wrong inputs. */
public final class PromiseTests {
    private static final int UNKNOWN = -1000000001, OUTSIDE = -1000000002, NOT = -1000000003, FULL = -1000000004;
    private static final int[] WILD = {-1, Integer.MIN_VALUE, Integer.MAX_VALUE, -1000000001};

    /** Each of two threads writes a cell and then reads the other's. */
    private static final String CROSSED = "t;w0;r1;t;w1;r0;";
    private static final String HANDED = "t;w0;w1;t;r1;r0;";

    private static int passed = 0;
    private static int failed = 0;

    public static void main(String[] args) {
        newObject();
        feed();
        threads();
        fault();
        told();
        step();
        pair();
        rings();
        reading();
        can();
        fence();
        cost();
        overtaking();
        best();
        drift();
        undo();
        write();
        tear();
        seed();
        keep();
        goBack();
        System.out.println(passed + " passed, " + failed + " failed");
        if (failed != 0) {
            System.exit(1);
        }
    }

    private static void due(String call, long got, long want) {
        if (got == want) {
            passed++;
        } else {
            failed++;
            System.out.println("PromiseTests: " + call + " answered " + got + ", due is " + want);
        }
    }

    private static FenceWays made(String text) {
        FenceWays x = new FenceWays();
        feedAll(x, text);
        x.threads();
        return x;
    }

    private static void feedAll(FenceWays x, String text) {
        for (int i = 0; i < text.length(); i++) {
            x.feed(text.charAt(i));
        }
    }

    private static void row(String name, FenceWays x, int what, int... want) {
        for (int i = 0; i < want.length; i++) {
            due(name + " reading(" + i + ", " + what + ")", x.reading(i, what), want[i]);
        }
        due(name + " reading(" + want.length + ", " + what + ")", x.reading(want.length, what), -1);
        due(name + " reading(-1, " + what + ")", x.reading(-1, what), -1);
    }

    /** All that a refusal must leave as it was, beside the text. */
    private static String stateOf(FenceWays x) {
        StringBuilder all = new StringBuilder();
        for (int what = 0; what <= 18; what++) {
            all.append(x.told(what)).append(' ');
        }
        for (int s = 0; s < 8; s++) {
            for (int what = 0; what <= 6; what++) {
                all.append(x.step(s, what)).append(' ');
            }
        }
        int seed = x.seed(0);
        x.seed(seed);
        return all.append(seed).toString();
    }

    private static void same(String call, FenceWays x, String before) {
        due(call + " changes nothing", stateOf(x).equals(before) ? 1 : 0, 1);
    }

    private static void newObject() {
        FenceWays x = new FenceWays();
        int[] want = {0, 0, 0, 15, 0, 0, 1, 1, 0, 0, 0, 0, 1, 0, 0, 0, 0, -1, 0};
        for (int what = 0; what < want.length; what++) {
            due("new told(" + what + ")", x.told(what), want[what]);
        }
        due("new fault", x.fault(), -1);
        due("new seed", x.seed(0), 0);
        due("new step", x.step(0, 0), UNKNOWN);
        due("new pair", x.pair(0, 1, 0), UNKNOWN);
        due("new fence", x.fence(1, true), UNKNOWN);
        due("new cost", x.cost(0, 3), UNKNOWN);
        due("new goBack", x.goBack(0), NOT);
        due("new undo", x.undo(1), NOT);
        row("new", x, 0, 0);
        row("new", x, 1, 0);
        row("new", x, 2);
        due("new can(0)", x.can(0), 2);
        due("new best", x.best(), 0);
        due("new best is a deed", x.told(18), 1);
        due("new overtaking", x.overtaking(3), 1);
        due("new tear", x.tear(), 0);
        due("NONE", FenceWays.NONE, -1);
        due("UNKNOWN", FenceWays.UNKNOWN, UNKNOWN);
        due("OUTSIDE", FenceWays.OUTSIDE, OUTSIDE);
        due("NOT", FenceWays.NOT, NOT);
        due("FULL", FenceWays.FULL, FULL);
    }

    private static void feed() {
        FenceWays x = new FenceWays();
        due("feed(-1)", x.feed(-1), OUTSIDE);
        due("feed(256)", x.feed(256), OUTSIDE);
        due("told(2) behind refusals", x.told(2), 0);
        due("feed(0)", x.feed(0), 1);
        due("feed(255)", x.feed(255), 2);
        for (int i = 3; i <= 120; i++) {
            due("feed(32)", x.feed(32), i);
        }
        due("feed(32) too many", x.feed(32), FULL);
        due("feed(300) too many", x.feed(300), OUTSIDE);
        due("told(2) full", x.told(2), 120);
        due("threads of 120 letters", x.threads(), -11);
        due("told(2) emptied", x.told(2), 0);
        due("feed goes on", x.feed('t'), 1);
    }

    private static void faultOf(String text, int number, int place) {
        FenceWays x = made(CROSSED);
        x.fence(1, true);
        x.write(3, true);
        x.keep(0);
        x.cost(3, 5);
        String before = stateOf(x);
        feedAll(x, text);
        due("threads of '" + text + "'", x.threads(), -10 - number);
        due("fault of '" + text + "'", x.fault(), place);
        same("threads of '" + text + "'", x, before);
        due("goBack behind '" + text + "'", x.goBack(0), 1);
    }

    private static void threads() {
        FenceWays x = new FenceWays();
        due("threads of nothing", x.threads(), 0);
        feedAll(x, "   ");
        due("threads of blanks", x.threads(), 0);
        feedAll(x, "t;");
        due("threads of no steps", x.threads(), 0);
        due("told(0) of no steps", x.told(0), 1);
        feedAll(x, "t;t;t;r0;w1;r2;w0;r0;w1;r2;w2;");
        due("threads of eight steps", x.threads(), 8);
        due("told(0) of eight steps", x.told(0), 3);
        feedAll(x, " t ; r\0".substring(0, 6) + " 2 ;w 0; ");
        due("threads with blanks", x.threads(), 2);
        due("cell behind a blank", x.step(0, 1), 2);

        x = made(CROSSED);
        x.seed(77);
        row("old steps", x, 1, 1, 27, 28);
        x.fence(1, true);
        x.cost(3, 4);
        x.overtaking(2);
        x.write(5, true);
        x.keep(0);
        x.fence(3, true);
        feedAll(x, HANDED);
        due("threads again", x.threads(), 4);
        due("fences are gone", x.told(4), 0);
        due("costs are gone", x.step(3, 3), 1);
        due("overtaking is as at first", x.told(3), 15);
        due("no book", x.told(16), 0);
        due("nothing to undo", x.told(18), 0);
        due("no image", x.goBack(0), NOT);
        due("the seed stays", x.seed(1), 77);
        due("new steps", x.step(1, 2), 1);
        row("new steps", x, 1, 0, 1, 19);
        due("threads of the empty text again", x.threads(), 0);
        due("no threads then", x.told(0), 0);
        due("readings then", x.told(6), 1);
    }

    private static void fault() {
        faultOf("x", 1, 0);
        faultOf("r0;", 1, 0);
        faultOf("w0;", 1, 0);
        faultOf(" w9;", 1, 1);
        faultOf("t", 1, 1);
        faultOf("t  ", 1, 3);
        faultOf("tt;", 1, 1);
        faultOf("t;;", 1, 2);
        faultOf(";", 1, 0);
        faultOf("T;", 1, 0);
        faultOf("t;r", 1, 3);
        faultOf("t;r;", 1, 3);
        faultOf("t;r0", 1, 4);
        faultOf("t;r01;", 1, 4);
        faultOf("t;r 3;", 2, 4);
        faultOf("t;w9;", 2, 3);
        faultOf("t;w/;", 1, 3);
        faultOf("t;w:;", 1, 3);
        faultOf("t;t;t;t;", 3, 6);
        faultOf("t;t;t; t", 3, 7);
        faultOf("t;r0;r0;r0;r0;r0;r0;r0;r0;w", 3, 26);
        faultOf("t;r0;r0;r0;r0;r0;r0;r0;r0;r9;", 3, 26);
        faultOf("t;r0;r0;r0;r0;r0;r0;r0;r0;x", 1, 26);
        faultOf("t;\t", 1, 2);
        faultOf("t;" + (char) 0, 1, 2);
        faultOf("t;" + (char) 255, 1, 2);
        FenceWays x = made("t;r3;");
        due("fault stays", x.fault(), 3);
        due("fault stays", x.fault(), 3);
        x.threads();
        due("fault of a good text", x.fault(), -1);
    }

    private static void told() {
        FenceWays x = made(CROSSED);
        for (int what : new int[] {-1, 19, Integer.MIN_VALUE, Integer.MAX_VALUE}) {
            due("told(" + what + ")", x.told(what), OUTSIDE);
        }
        int[] want = {2, 4, 0, 15, 0, 0, 4, 3, 1, 1, 2, 0, 0, 10, 2, 0, 0, -1, 0};
        for (int what = 0; what < want.length; what++) {
            due("told(" + what + ")", x.told(what), want[what]);
        }
        x.feed('t');
        x.fence(1, true);
        x.cost(3, 7);
        int[] half = {2, 4, 1, 15, 2, 1, 4, 3, 1, 1, 2, 1, 0, 10, 8, 2, 0, -1, 2};
        for (int what = 0; what < half.length; what++) {
            due("with a fence told(" + what + ")", x.told(what), half[what]);
        }
        x.fence(3, true);
        due("safe", x.told(12), 1);
        due("safe readings", x.told(6), 3);
        due("safe stray ones", x.told(8), 0);
        due("both needed", x.told(15), 10);
        due("cost of both", x.told(5), 8);

        // In "t;w0;w2;r1;.." both gaps hold the pair 0, 2: neither alone is needed.
        x = made("t;w0;w2;r1;t;w1;r0;");
        x.fence(1, true);
        due("one of two holders is needed", x.told(15), 2);
        x.fence(2, true);
        due("with both none is needed", x.told(15), 0);
        due("held once", x.told(11), 1);
        x.cost(1, 2);
        due("the cheaper gap", x.told(13), 4 + 16);
        x.cost(2, 2);
        due("of like ones the least set", x.told(13), 2 + 16);
        due("its cost", x.told(14), 3);
        due("what is best does not hang on fences", x.told(13), 2 + 16);
    }

    private static void step() {
        FenceWays x = made("t;w0;r0;t;w0;r1;w1;");
        due("step(-1, 9)", x.step(-1, 9), UNKNOWN);
        due("step(5, 0)", x.step(5, 0), UNKNOWN);
        due("step(0, -1)", x.step(0, -1), OUTSIDE);
        due("step(4, 7)", x.step(4, 7), OUTSIDE);
        for (int s : WILD) {
            due("step(" + s + ", 0)", x.step(s, 0), UNKNOWN);
        }
        int[][] want = {
            {0, 0, 1, -1, -1, 0, 4}, {0, 0, 0, 1, 0, 1, 4}, {1, 0, 1, -1, -1, 0, 3},
            {1, 1, 0, 1, 0, 0, 0}, {1, 1, 1, 1, 0, 8, 0}};
        for (int s = 0; s < 5; s++) {
            for (int what = 0; what <= 6; what++) {
                due("step(" + s + ", " + what + ")", x.step(s, what), want[s][what]);
            }
        }
        x.overtaking(14);
        due("a read behind a write waits", x.step(3, 5), 4);
        due("a write behind a write does not", x.step(4, 5), 8);
        x.overtaking(13);
        due("a write behind a write waits", x.step(4, 5), 12);
        x.overtaking(15);
        x.fence(4, true);
        due("all behind a fence wait for all ahead", x.step(4, 5), 12);
        due("ahead of the fence nobody waits", x.step(3, 5), 0);
        x.cost(4, 9);
        due("cost of a gap", x.step(4, 3), 9);

        FenceWays y = made("t;r0;r1;w2;w1;");
        y.overtaking(11);
        due("a read behind a read waits", y.step(1, 5), 1);
        due("a write behind a read does not", y.step(2, 5), 0);
        y.overtaking(7);
        due("a write behind reads waits", y.step(2, 5), 3);
        due("wait goes no farther", y.step(3, 5), 3);
        y.overtaking(0);
        due("all wait", y.step(3, 5), 7);
        due("two that read are not in conflict", made("t;r0;t;r0;").step(0, 6), 0);

        FenceWays z = made("t;w0;w2;r1;t;w1;r0;");
        due("holds of a gap", z.step(1, 4), 1);
        due("holds of a gap", z.step(2, 4), 1);
        due("holds of a gap", z.step(4, 4), 1);
        z.overtaking(14);
        due("nothing loose to hold", z.step(2, 4), 0);
    }

    private static void pair() {
        FenceWays x = made(CROSSED);
        due("pair twice", x.pair(1, 1, 9), UNKNOWN);
        due("pair of none", x.pair(-1, 1, 0), UNKNOWN);
        due("pair of none", x.pair(0, 4, 0), UNKNOWN);
        for (int s : WILD) {
            due("pair(" + s + ", 0, 0)", x.pair(s, 0, 0), UNKNOWN);
            due("pair(0, " + s + ", 0)", x.pair(0, s, 0), UNKNOWN);
        }
        due("pair(0, 1, 4)", x.pair(0, 1, 4), OUTSIDE);
        due("pair(0, 1, -1)", x.pair(0, 1, -1), OUTSIDE);
        due("pair(1, 0, 4)", x.pair(1, 0, 4), OUTSIDE);
        due("pair(1, 0, 0)", x.pair(1, 0, 0), NOT);
        due("pair(0, 2, 0)", x.pair(0, 2, 0), NOT);
        due("pair(1, 2, 3)", x.pair(1, 2, 3), NOT);
        due("a pair", x.pair(0, 1, 0), 1);
        due("loose", x.pair(0, 1, 1), 1);
        due("not held", x.pair(0, 1, 2), 0);
        due("in one ring", x.pair(0, 1, 3), 1);
        x.fence(1, true);
        due("held", x.pair(0, 1, 2), 1);
        due("loose, fences aside", x.pair(0, 1, 1), 1);
        due("the other is not held", x.pair(2, 3, 2), 0);
        x.overtaking(0);
        due("a pair all the same", x.pair(0, 1, 0), 1);
        due("not loose", x.pair(0, 1, 1), 0);
        due("held though not loose", x.pair(0, 1, 2), 1);

        FenceWays y = made("t;w0;r1;r2;t;r0;");
        y.fence(2, true);
        due("no ring, no pair", y.pair(1, 2, 0), 0);
        due("no pair, not loose", y.pair(1, 2, 1), 0);
        due("no pair, not held", y.pair(1, 2, 2), 0);
        due("no pair, in no ring", y.pair(1, 2, 3), 0);
    }

    private static void ringsOf(String text, int count, int loose) {
        FenceWays x = made(text);
        due("rings of " + text, x.told(9), count);
        due("loose pairs of " + text, x.told(10), loose);
    }

    private static void rings() {
        ringsOf("t;w0;w1;t;w1;w0;", 1, 2);
        ringsOf("t;w0;w1;t;w0;w1;", 0, 0);
        ringsOf("t;r0;r1;t;r1;r0;", 0, 0);
        ringsOf("t;r0;r0;t;w0;w0;", 0, 0);
        ringsOf("t;w0;r1;w0;t;w1;r0;", 1, 2);
        ringsOf("t;w0;r1;t;w1;r0;r0;", 2, 3);
        // Three threads round three cells, either way.
        ringsOf("t;w0;r1;t;w1;r2;t;w2;r0;", 1, 3);
        ringsOf("t;w0;r1;t;w2;r0;t;w1;r2;", 1, 3);
        // One step alone: a writer between two that read its cell.
        ringsOf("t;w0;t;r0;r1;t;w1;r0;", 1, 2);
        ringsOf("t;w0;t;r0;w1;t;r1;r0;", 1, 2);
        ringsOf("t;w0;t;w0;r1;t;w1;r0;", 1, 2);
        ringsOf("t;r0;t;w0;w1;t;w1;w0;", 1, 2);
        ringsOf("t;w0;t;r0;r1;t;w1;w0;", 1, 2);
        ringsOf("t;w0;t;w0;w1;t;r1;r0;", 1, 2);
        // Two writers alone, with two that read: each writer's neighbours would have to read.
        ringsOf("t;w0;t;w1;t;r0;r1;", 0, 0);
        // One pair in more rings than one.
        FenceWays x = made("t;w0;r1;t;w1;r0;t;w1;r0;");
        due("rings in two others", x.told(9), 2);
        due("given twice", x.pair(0, 1, 3), 2);
        due("given once", x.pair(2, 3, 3), 1);
        due("given once", x.pair(4, 5, 3), 1);
    }

    private static void reading() {
        FenceWays x = made(CROSSED);
        row(CROSSED, x, 0, 0, 1, 27, 28);
        row(CROSSED, x, 1, 1, 27, 28);
        row(CROSSED, x, 2, 0);
        due("reading(0, 3)", x.reading(0, 3), OUTSIDE);
        due("reading(0, -1)", x.reading(0, -1), OUTSIDE);
        due("reading(-5, 3)", x.reading(-5, 3), OUTSIDE);
        for (int i : WILD) {
            due("reading(" + i + ", 2)", x.reading(i, 2), -1);
        }
        x.best();
        row("fenced", x, 0, 1, 27, 28);
        row("fenced", x, 2);
        row("one thread", made("t;w2;r0;r2;w0;r0;r1;"), 0, 1 * 81 + 4 * 9);
        row("none reads", made("t;w0;t;w0;w1;"), 0, 0);
        row("the eighth", made("t;r0;t;w1;w1;w1;w1;w1;w1;w0;"), 0, 0, 8);
        due("the most readings", made("t;r0;r0;t;r0;r0;t;w0;w0;w0;w0;").told(6), 225);
        due("readings behind the most states", made("t;w0;w1;w2;t;w0;w1;r2;t;r0;r1;").told(6), 18);
    }

    private static void can() {
        FenceWays x = made(CROSSED);
        int[] numbers = {-1, 0, 1, 2, 26, 27, 28, 29, 43046720, 43046721, Integer.MAX_VALUE, Integer.MIN_VALUE};
        int[] want = {0, 1, 2, 0, 0, 2, 2, 0, 0, 0, 0, 0};
        for (int i = 0; i < numbers.length; i++) {
            due("can(" + numbers[i] + ")", x.can(numbers[i]), want[i]);
        }
        x.overtaking(0);
        due("can(0) when none overtakes", x.can(0), 0);
        due("can(27) when none overtakes", x.can(27), 2);
        x.undo(1);
        due("can(0) undone", x.can(0), 1);
    }

    private static void fence() {
        FenceWays x = made("t;w0;r1;w2;t;w1;r0;");
        due("fence(-1)", x.fence(-1, true), UNKNOWN);
        due("fence of a first step", x.fence(0, true), UNKNOWN);
        due("fence of a first step", x.fence(3, false), UNKNOWN);
        due("fence of no step", x.fence(5, true), UNKNOWN);
        for (int gap : WILD) {
            due("fence(" + gap + ")", x.fence(gap, true), UNKNOWN);
        }
        due("refused deeds are none", x.told(18), 0);
        x.cost(2, 5);
        due("fence(1, true)", x.fence(1, true), 1);
        due("fence(2, true)", x.fence(2, true), 6);
        due("fence(2, true) again", x.fence(2, true), 6);
        due("fences", x.told(4), 6);
        due("fence(1, false)", x.fence(1, false), 5);
        due("fence(4, false) not there", x.fence(4, false), 5);
        due("fences", x.told(4), 4);
        due("each is a deed", x.told(18), 6);
    }

    private static void cost() {
        FenceWays x = made(CROSSED);
        due("cost(0, 99)", x.cost(0, 99), UNKNOWN);
        due("cost(2, 1)", x.cost(2, 1), UNKNOWN);
        due("cost(4, 1)", x.cost(4, 1), UNKNOWN);
        due("cost(-1, 1)", x.cost(-1, 1), UNKNOWN);
        due("cost(1, 0)", x.cost(1, 0), OUTSIDE);
        due("cost(1, 10)", x.cost(1, 10), OUTSIDE);
        due("no deed", x.told(18), 0);
        due("cost(1, 9)", x.cost(1, 9), 1);
        due("cost(1, 1)", x.cost(1, 1), 9);
        due("cost(1, 1) again", x.cost(1, 1), 1);
        due("each is a deed", x.told(18), 3);
        due("the other costs what it did", x.step(3, 3), 1);
    }

    private static void overtaking() {
        FenceWays x = made(HANDED);
        due("overtaking(-1)", x.overtaking(-1), OUTSIDE);
        due("overtaking(16)", x.overtaking(16), OUTSIDE);
        due("told(3)", x.told(3), 15);
        int[] want = {3, 3, 4, 4, 4, 4, 4, 4, 3, 3, 4, 4, 4, 4, 4, 4};
        for (int set = 0; set < 16; set++) {
            due("overtaking(" + set + ")", x.overtaking(set), want[set]);
            due("told(3)", x.told(3), set);
        }
        due("each is a deed", x.told(18), 16);
        FenceWays y = made("t;r0;w1;t;r1;w0;");
        due("a write behind a read", y.overtaking(8), 4);
        due("not so", y.overtaking(7), 3);
    }

    private static void best() {
        FenceWays x = made(CROSSED);
        x.cost(1, 3);
        due("best", x.best(), 4);
        due("fences", x.told(4), 10);
        due("safe", x.told(12), 1);
        x.overtaking(0);
        due("nothing loose", x.best(), 0);
        due("no fences", x.told(4), 0);
        due("each is a deed", x.told(18), 4);
        FenceWays y = made("t;w0;w2;r1;t;w1;r0;");
        y.fence(2, true);
        due("best takes what is not", y.best(), 2);
        due("the least set", y.told(4), 2 + 16);
    }

    private static void drift() {
        FenceWays x = made(CROSSED);
        due("drift(0)", x.drift(0), OUTSIDE);
        due("drift(21)", x.drift(21), OUTSIDE);
        due("drift(-1)", x.drift(-1), OUTSIDE);
        due("seed stays", x.seed(0), 0);

        long seed = 0;
        int fences = 0;
        int kinds = 15;
        int[] costs = {1, 1, 1, 1};
        for (int time = 1; time <= 60; time++) {
            int[] drawn = new int[4];
            int[] of = {4, 4, 9, 16};
            for (int k = 0; k < 4; k++) {
                seed = (seed * 1103515245L + 12345L) % 2147483648L;
                drawn[k] = (int) (seed / 65536 % of[k]);
            }
            boolean gap = drawn[1] == 1 || drawn[1] == 3;
            if (drawn[0] < 2 && gap) {
                fences ^= 1 << drawn[1];
            } else if (drawn[0] == 2 && gap) {
                costs[drawn[1]] = drawn[2] + 1;
            } else if (drawn[0] == 3) {
                kinds = drawn[3];
            }
            due("drift(1)", x.drift(1), fences);
            due("kinds", x.told(3), kinds);
            due("cost", x.step(1, 3), costs[1]);
            due("cost", x.step(3, 3), costs[3]);
            due("each time is a deed", x.told(18), Math.min(time, 20));
        }
        due("seed", x.seed(5), seed);
        FenceWays y = made("t;");
        due("drift without steps", y.drift(20), 0);
        due("nothing drawn", y.seed(0), 0);
        due("nothing done", y.told(18), 0);
        FenceWays z = made(CROSSED);
        due("twenty at once", z.drift(20) >= 0 ? 1 : 0, 1);
        due("twenty deeds", z.told(18), 20);
    }

    private static void undo() {
        FenceWays x = made(CROSSED);
        due("undo(0)", x.undo(0), OUTSIDE);
        due("undo(21)", x.undo(21), OUTSIDE);
        due("undo(1)", x.undo(1), NOT);
        x.fence(1, true);
        x.cost(3, 6);
        x.overtaking(4);
        x.best();
        due("undo(5)", x.undo(5), NOT);
        due("best is undone", x.undo(1), 3);
        due("fences", x.told(4), 2);
        due("overtaking is undone", x.undo(1), 2);
        due("kinds", x.told(3), 15);
        due("readings", x.told(6), 4);
        due("two are undone", x.undo(2), 0);
        due("fences", x.told(4), 0);
        due("cost", x.step(3, 3), 1);
        for (int i = 1; i <= 25; i++) {
            x.cost(1, i % 9 + 1);
        }
        due("twenty are kept", x.told(18), 20);
        due("undo(20)", x.undo(20), 0);
        due("as ahead of the sixth", x.step(1, 3), 6);
        x.seed(9);
        x.drift(3);
        int seed = x.seed(0);
        x.seed(seed);
        due("a part of the times", x.undo(2), 1);
        due("the seed stays", x.seed(0), seed);
        x.write(4, true);
        due("the book is no deed", x.told(18), 1);
        due("undone", x.undo(1), 0);
        due("the book stays", x.told(16), 1);
    }

    private static void write() {
        FenceWays x = made(CROSSED);
        due("write(-1)", x.write(-1, true), OUTSIDE);
        due("write(43046721)", x.write(43046721, false), OUTSIDE);
        due("write(28, true)", x.write(28, true), 1);
        due("write(2, false)", x.write(2, false), 2);
        due("write(43046720, false)", x.write(43046720, false), 3);
        due("none is wrong", x.told(17), -1);
        due("write(0, true)", x.write(0, true), 4);
        due("none is wrong", x.told(17), -1);
        x.best();
        due("wrong now", x.told(17), 3);
        x.undo(1);
        due("right again", x.told(17), -1);
        for (int i = 5; i <= 20; i++) {
            due("write(2, true)", x.write(2, true), i);
        }
        due("the first that is wrong", x.told(17), 4);
        due("write(2, true) too many", x.write(2, true), FULL);
        due("write(-1, true) too many", x.write(-1, true), OUTSIDE);
        due("entries", x.told(16), 20);
    }

    private static void tear() {
        FenceWays x = made(CROSSED);
        due("tear nothing", x.tear(), 0);
        x.write(2, true);
        x.write(2, true);
        due("tear", x.tear(), 2);
        due("no book", x.told(16), 0);
        due("none is wrong", x.told(17), -1);
        due("write again", x.write(2, false), 1);
        due("none is wrong", x.told(17), -1);
    }

    private static void seed() {
        FenceWays x = new FenceWays();
        due("seed(-1)", x.seed(-1), OUTSIDE);
        due("seed(least)", x.seed(Integer.MIN_VALUE), OUTSIDE);
        due("seed(most)", x.seed(Integer.MAX_VALUE), 0);
        due("seed(0)", x.seed(0), Integer.MAX_VALUE);
        due("seed is no deed", x.told(18), 0);
        x = made(CROSSED);
        x.seed(Integer.MAX_VALUE);
        x.drift(1);
        long seed = Integer.MAX_VALUE;
        for (int k = 0; k < 4; k++) {
            seed = (seed * 1103515245L + 12345L) % 2147483648L;
        }
        due("drawn from the most", x.seed(0), seed);
    }

    private static void keep() {
        FenceWays x = made(CROSSED);
        due("keep(-1)", x.keep(-1), UNKNOWN);
        due("keep(2)", x.keep(2), UNKNOWN);
        x.fence(1, true);
        due("refused, can be undone", x.told(18), 1);
        due("keep(0)", x.keep(0), 1);
        due("nothing can be undone", x.told(18), 0);
        due("what is so stays", x.told(4), 2);
        x.fence(3, true);
        due("keep(0) again", x.keep(0), 1);
        x.best();
        x.overtaking(0);
        due("goBack(0)", x.goBack(0), 1);
        due("the later image", x.told(4), 10);
        due("keep without threads", new FenceWays().keep(1), 1);
    }

    private static void goBack() {
        FenceWays x = made(CROSSED);
        due("goBack(-1)", x.goBack(-1), UNKNOWN);
        due("goBack(2)", x.goBack(2), UNKNOWN);
        due("goBack(1)", x.goBack(1), NOT);
        x.seed(11);
        x.fence(1, true);
        x.cost(3, 8);
        x.overtaking(3);
        x.keep(1);
        due("goBack(0)", x.goBack(0), NOT);
        x.write(1, true);
        x.seed(12);
        x.fence(1, false);
        x.cost(3, 2);
        x.overtaking(0);
        due("goBack(1)", x.goBack(1), 1);
        due("fences", x.told(4), 2);
        due("cost", x.step(3, 3), 8);
        due("kinds", x.told(3), 3);
        due("readings", x.told(6), 4);
        due("nothing can be undone", x.told(18), 0);
        due("the book stays", x.told(16), 1);
        due("seed", x.seed(0), 11);
        x.fence(3, true);
        due("goBack(1) again", x.goBack(1), 1);
        due("the image stays", x.told(4), 2);
        due("the image's seed stays", x.seed(0), 11);
    }
}
