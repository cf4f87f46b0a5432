import java.io.IOException;
import java.util.Random;

/** Boundaries of what is asked: rings, pairs, fences that hold them, readings; Terms, parts 2 and 3, promises 5 to 9. */
public final class BoundaryRingTests {
    /** Gap 2 holds both pairs of the first thread, (0, 2) and (1, 3); gaps 1 and 3 hold one each. */
    private static final String SHARED_GAP = "t;w0;w2;r1;w0;t;w1;r0;t;r0;r2;";
    private static final int[] WILD = {Bench.LEAST, Bench.MOST, 31, 32, 33, 64, -32, Bench.UNKNOWN};

    public static void main(String[] args) throws IOException {
        Bench.begin("BoundaryRingTests", args);
        fromZero();
        setBits();
        conflicts();
        ringsOfThreads();
        twoSteps();
        oneStep();
        roundTwoWays();
        loose();
        held();
        safe();
        best();
        safeIsStrict();
        nothingChanges();
        stray();
        needed();
        holds();
        told();
        step();
        pair();
        reading();
        can();
        Bench.end();
    }

    private static void due(String call, long got, long want) {
        Bench.due(call, got, want);
    }

    private static void ringsOf(String text, int rings, int loose) {
        FenceWays x = Bench.made(text);
        due("told(9) of " + text, x.told(9), rings);
        due("told(10) of " + text, x.told(10), loose);
    }

    private static void fromZero() {
        Bench.sentence("What has a number has it from 0 on.");
        FenceWays x = Bench.made("t;w0;t;w0;t;w0;");
        for (int s = 0; s <= 2; s++) {
            due("thread of step " + s, x.step(s, 0), s);
        }
        due("step(-1, 0)", x.step(-1, 0), Bench.UNKNOWN);
        due("step(3, 0)", x.step(3, 0), Bench.UNKNOWN);
        x.write(1, true);
        due("the first entry is wrong", x.told(17), 0);
    }

    private static void setBits() {
        Bench.sentence("A SET is a whole number, bit k for k (of STEPS, if nothing else is told).");
        FenceWays x = Bench.made("t;w0;w0;w0;w0;w0;w0;w0;t;w0;");
        due("conflicts of the eighth", x.step(7, 6), 127);
        due("conflicts of the first", x.step(0, 6), 128);
        due("waits of the seventh", x.step(6, 5), 63);
        x = Bench.made(Bench.LONG);
        x.fence(7, true);
        due("a fence in the last gap", x.told(4), 128);
        x.fence(1, true);
        due("and in the first", x.told(4), 130);
    }

    private static void conflicts() {
        Bench.sentence("CONFLICT: two STEPS of unlike THREADS and of one CELL, one of which at least WRITES.");
        String[] texts = {"t;w0;t;w0;", "t;w0;t;r0;", "t;r0;t;w0;", "t;r0;t;r0;", "t;w0;t;w1;", "t;w0;w0;", "t;w2;r2;"};
        int[] want = {1, 1, 1, 0, 0, 0, 0};
        for (int i = 0; i < texts.length; i++) {
            FenceWays x = Bench.made(texts[i]);
            due("step(0, 6) of " + texts[i], x.step(0, 6), want[i] * 2);
            due("step(1, 6) of " + texts[i], x.step(1, 6), want[i]);
        }
    }

    private static void ringsOfThreads() {
        Bench.sentence("A RING of two or three THREADS, in a round:");
        ringsOf("", 0, 0);
        ringsOf("t;w0;w1;w0;w1;", 0, 0);
        ringsOf(Bench.CROSSED, 1, 2);
        ringsOf("t;w0;r1;t;w1;r2;t;w2;r0;", 1, 3);
        ringsOf("t;w0;r1;t;w1;r2;", 0, 0);
        ringsOf("t;w0;r1;t;t;w1;r0;", 1, 2);
    }

    private static void twoSteps() {
        Bench.sentence("each gives two STEPS of unlike CELLS, the first of which is ahead of the other,");
        ringsOf("t;w0;w0;t;w0;w0;", 0, 0);
        ringsOf("t;r0;w0;t;w0;r0;t;w0;w0;", 0, 0);
        ringsOf("t;w0;w1;t;w1;w0;", 1, 2);
        ringsOf("t;w0;w1;t;w0;w1;", 0, 0);
        Bench.sentence("the last STEP of each and the first of the next one are in CONFLICT.");
        ringsOf("t;r0;r1;t;r1;r0;", 0, 0);
        ringsOf("t;w0;r1;t;r1;r0;", 0, 0);
        ringsOf("t;w0;w1;t;r1;r0;", 1, 2);
        ringsOf("t;w0;w1;t;w1;w2;", 0, 0);
    }

    private static void oneStep() {
        Bench.sentence("or one STEP that WRITES (just if there are three THREADS, and its neighbours in the round READ its CELL);");
        ringsOf("t;w0;t;r0;r1;t;w1;r0;", 1, 2);
        ringsOf("t;r0;w1;t;w0;t;r1;r0;", 1, 2);
        ringsOf("t;r0;w1;t;r1;r0;t;w0;", 1, 2);
        // A neighbour that writes: the two others are a ring without the one.
        ringsOf("t;w0;t;w0;r1;t;w1;r0;", 1, 2);
        ringsOf("t;w0;t;r0;r1;t;w1;w0;", 1, 2);
        ringsOf("t;w0;t;w0;w1;t;w1;w0;", 1, 2);
        // One that reads between two that write.
        ringsOf("t;r0;t;w0;r1;t;w1;w0;", 1, 2);
        // Neighbours of another cell, one of them or both.
        ringsOf("t;w2;t;r0;r1;t;w1;r0;", 0, 0);
        ringsOf("t;w0;t;r0;r1;t;w1;r2;", 0, 0);
        // Two threads, one of which gives but one.
        ringsOf("t;w0;t;r0;r0;", 0, 0);
        ringsOf("t;w0;t;r0;w1;r0;", 0, 0);
        // Two that give but one are neighbours, and write.
        ringsOf("t;w0;t;w0;t;r0;r0;", 0, 0);
        ringsOf("t;w0;t;w1;t;r0;r1;", 0, 0);
    }

    private static void roundTwoWays() {
        Bench.sentence("(So three THREADS may go round in two ways; a RING is the same wherever it is begun.)");
        ringsOf("t;w0;r1;t;w1;r2;t;w2;r0;", 1, 3);
        ringsOf("t;w0;r1;t;w2;r0;t;w1;r2;", 1, 3);
        FenceWays x = Bench.made("t;w0;t;r0;w1;r0;t;r0;w1;r0;");
        due("told(9), either way", x.told(9), 2);
        due("told(10), either way", x.told(10), 4);
        int[][] pairs = {{1, 2}, {2, 3}, {4, 5}, {5, 6}};
        for (int[] pair : pairs) {
            due("pair(" + pair[0] + ", " + pair[1] + ", 3)", x.pair(pair[0], pair[1], 3), 1);
        }
        due("pair(1, 3, 3)", x.pair(1, 3, 3), 0);
    }

    private static void loose() {
        Bench.sentence("it is LOOSE, if the latter needs not WAIT for the former, FENCES aside.");
        FenceWays x = Bench.made("t;w0;w1;t;r1;r0;");
        FenceWays y = Bench.made("t;w0;r1;t;w1;r0;");
        FenceWays z = Bench.made("t;r0;w1;t;r1;w0;");
        for (int set = 0; set <= 15; set++) {
            x.overtaking(set);
            y.overtaking(set);
            z.overtaking(set);
            due("kind 0 with " + set, y.pair(0, 1, 1), set & 1);
            due("kind 1 with " + set, x.pair(0, 1, 1), set >> 1 & 1);
            due("kind 2 with " + set, x.pair(2, 3, 1), set >> 2 & 1);
            due("kind 3 with " + set, z.pair(0, 1, 1), set >> 3 & 1);
            due("loose pairs with " + set, x.told(10), (set >> 1 & 1) + (set >> 2 & 1));
            due("a pair with " + set, x.pair(0, 1, 0), 1);
        }
        x.fence(1, true);
        due("loose behind a fence", x.pair(0, 1, 1), 1);
        due("loose pairs behind a fence", x.told(10), 2);
    }

    private static void held() {
        Bench.sentence("HELD: a PAIR with a FENCE in a GAP between.");
        int[] want = {0, 0, 1, 1, 0};
        for (int gap = 1; gap <= 4; gap++) {
            FenceWays x = Bench.made("t;w2;w0;w2;r1;w2;t;w1;r0;");
            due("not held", x.pair(1, 3, 2), 0);
            x.fence(gap, true);
            due("pair(1, 3, 2) with a fence in " + gap, x.pair(1, 3, 2), want[gap]);
            due("told(11) with a fence in " + gap, x.told(11), want[gap]);
            x.fence(gap, false);
            due("held no more", x.pair(1, 3, 2), 0);
        }
        FenceWays x = Bench.made("t;w0;r2;r1;t;w1;r0;");
        x.fence(1, true);
        due("a fence, but no pair", x.pair(0, 1, 2), 0);
        due("a pair across it", x.pair(0, 2, 2), 1);
        x.overtaking(0);
        due("held, not loose", x.pair(0, 2, 2), 1);
        due("not counted", x.told(11), 0);
    }

    private static void safe() {
        Bench.sentence("SAFE: all LOOSE PAIRS are HELD.");
        FenceWays x = Bench.made(Bench.CROSSED);
        due("none held", x.told(12), 0);
        x.fence(1, true);
        due("all but one", x.told(12), 0);
        due("held", x.told(11), 1);
        x.fence(3, true);
        due("all", x.told(12), 1);
        due("held", x.told(11), 2);
        x.fence(1, false);
        due("all but the other", x.told(12), 0);
        x.overtaking(14);
        due("none loose", x.told(12), 1);
        due("no rings", Bench.made("t;w0;r1;").told(12), 1);
        due("no threads", new FenceWays().told(12), 1);
    }

    private static void best() {
        Bench.sentence("that HOLD all LOOSE PAIRS for the least COST together; of like ones the least SET.");
        FenceWays x = Bench.made(SHARED_GAP);
        bestIs(x, 4 + 160, 3);
        x.cost(2, 2);
        bestIs(x, 4 + 160, 4);
        x.cost(2, 3);
        bestIs(x, 2 + 8 + 160, 4);
        x.cost(1, 9);
        bestIs(x, 4 + 160, 5);
        x.cost(2, 9);
        bestIs(x, 4 + 160, 11);
        x.cost(5, 9);
        x.cost(7, 9);
        bestIs(x, 4 + 160, 27);
        x.fence(2, true);
        x.fence(1, true);
        bestIs(x, 4 + 160, 27);
        x.overtaking(0);
        bestIs(x, 0, 0);
        FenceWays y = Bench.made("t;w0;w2;r1;t;w1;r0;");
        bestIs(y, 2 + 16, 2);
        y.cost(1, 2);
        bestIs(y, 4 + 16, 2);
        y.cost(2, 2);
        bestIs(y, 2 + 16, 3);
        bestIs(Bench.made("t;r0;r1;"), 0, 0);
        bestIs(new FenceWays(), 0, 0);
        // Every gap is needed.
        FenceWays z = Bench.made("t;w0;t;r0;w1;r0;t;r0;w1;r0;");
        bestIs(z, 4 + 8 + 32 + 64, 4);
    }

    private static void bestIs(FenceWays x, int set, int cost) {
        due("told(13)", x.told(13), set);
        due("told(14)", x.told(14), cost);
    }

    private static void safeIsStrict() {
        Bench.sentence("(If all is SAFE, all READINGS are STRICT.)");
        Random random = new Random(6);
        int strays = 0;
        for (int i = 0; i < 400; i++) {
            FenceWays x = Bench.made(drawnText(random));
            x.overtaking(random.nextInt(16));
            strays += x.told(8) > 0 ? 1 : 0;
            if (x.told(8) > 0) {
                due("safe, though there are stray ones", x.told(12), 0);
            }
            x.best();
            due("safe by best()", x.told(12), 1);
            due("stray ones when safe", x.told(8), 0);
            due("readings when safe", x.told(6), x.told(7));
        }
        due("some had stray ones", strays > 40 ? 1 : 0, 1);
    }

    private static String drawnText(Random random) {
        StringBuilder text = new StringBuilder("t;");
        int threads = 1;
        for (int s = 0; s < 8; s++) {
            if (threads < 3 && random.nextInt(3) == 0) {
                text.append("t;");
                threads++;
            }
            text.append(random.nextBoolean() ? 'w' : 'r').append(random.nextInt(3)).append(';');
        }
        return text.toString();
    }

    private static void nothingChanges() {
        Bench.sentence("ASKED, nothing changes by it.");
        String want = Bench.whole(Bench.rich());
        FenceWays x = Bench.rich();
        for (int what = -1; what <= 19; what++) {
            x.told(what);
        }
        for (int s = -1; s <= 5; s++) {
            for (int what = -1; what <= 7; what++) {
                x.step(s, what);
            }
        }
        Bench.alike("told(), step()", Bench.whole(x), want);
        x = Bench.rich();
        for (int s = 0; s <= 4; s++) {
            for (int u = 0; u <= 4; u++) {
                x.pair(s, u, s % 4);
            }
        }
        for (int i = -1; i <= 6; i++) {
            for (int what = -1; what <= 3; what++) {
                x.reading(i, what);
            }
            x.can(i);
        }
        x.fault();
        Bench.alike("pair(), reading(), can(), fault()", Bench.whole(x), want);
    }

    private static void stray() {
        Bench.sentence("STRAY: those that are READINGS and not STRICT.");
        FenceWays x = Bench.made(Bench.CROSSED);
        due("one", x.told(8), 1);
        due("it", x.reading(0, 2), 0);
        due("no more", x.reading(1, 2), Bench.NONE);
        x.overtaking(0);
        due("none", x.told(8), 0);
        due("none to tell", x.reading(0, 2), Bench.NONE);
        FenceWays y = Bench.made("t;w0;r1;r2;t;w1;r0;t;w2;r0;r1;");
        due("seventeen", y.told(8), 17);
        due("the others", y.told(6) - y.told(7), 17);
        int found = 0;
        for (int i = 0; i < 32; i++) {
            int number = y.reading(i, 0);
            if (y.can(number) == 1) {
                due("stray one " + found, y.reading(found, 2), number);
                found++;
            }
        }
        due("found", found, 17);
        due("no more", y.reading(17, 2), Bench.NONE);
        // Some overtaking gives no reading but strict ones, though there is a ring.
        due("none with rings", Bench.made("t;w0;t;r0;w1;r0;t;r0;w1;r0;").told(8), 0);
    }

    private static void needed() {
        Bench.sentence("NEEDED: FENCES that are there, without which a LOOSE PAIR would not be HELD that is HELD now.");
        FenceWays x = Bench.made("t;w0;w2;r1;t;w1;r0;");
        due("no fences", x.told(15), 0);
        x.fence(1, true);
        due("the only one", x.told(15), 2);
        x.fence(2, true);
        due("either would do", x.told(15), 0);
        x.fence(4, true);
        due("the other thread's", x.told(15), 16);
        x.fence(1, false);
        due("the only one again", x.told(15), 4 + 16);
        x.overtaking(0);
        due("nothing loose", x.told(15), 0);
        due("fences stay", x.told(4), 4 + 16);
        FenceWays y = Bench.made(SHARED_GAP);
        y.fence(1, true);
        y.fence(2, true);
        due("the second pair needs gap 2", y.told(15), 4);
        y.fence(3, true);
        due("each pair has two", y.told(15), 0);
        y.fence(2, false);
        due("each pair has one", y.told(15), 2 + 8);
    }

    private static void holds() {
        Bench.sentence("HOLDS of a GAP: how many LOOSE PAIRS it would HOLD.");
        FenceWays x = Bench.made(SHARED_GAP);
        int[] want = {Bench.NONE, 1, 2, 1, Bench.NONE, 1, Bench.NONE, 1};
        for (int s = 0; s < want.length; s++) {
            due("step(" + s + ", 4)", x.step(s, 4), want[s]);
        }
        x.fence(1, true);
        x.fence(2, true);
        for (int s = 0; s < want.length; s++) {
            due("step(" + s + ", 4) behind fences", x.step(s, 4), want[s]);
        }
        x.overtaking(0);
        due("nothing loose", x.step(2, 4), 0);
        due("no gap", x.step(0, 4), Bench.NONE);
    }

    private static void told() {
        Bench.sentence("17 WRONG, 18 how many can be undone. OUTSIDE.");
        FenceWays x = Bench.made(Bench.CROSSED);
        due("told(0)", x.told(0), 2);
        due("told(18)", x.told(18), 0);
        due("told(-1)", x.told(-1), Bench.OUTSIDE);
        due("told(19)", x.told(19), Bench.OUTSIDE);
        for (int what : WILD) {
            due("told(" + what + ")", x.told(what), Bench.OUTSIDE);
        }
        due("told(19) of nothing", new FenceWays().told(19), Bench.OUTSIDE);
    }

    private static void step() {
        Bench.sentence("3 COST of its GAP (NONE: it has none), 4 HOLDS of its GAP (NONE), "
            + "5 STEPS for which it must WAIT, 6 with which it is in CONFLICT (SETS). UNKNOWN, OUTSIDE.");
        FenceWays x = Bench.made("t;w0;w0;w0;w0;w0;w0;t;w0;w0;");
        due("step(7, 0)", x.step(7, 0), 1);
        due("step(7, 6)", x.step(7, 6), 63);
        due("step(0, 0)", x.step(0, 0), 0);
        due("step(6, 3)", x.step(6, 3), Bench.NONE);
        due("step(6, 4)", x.step(6, 4), Bench.NONE);
        due("step(7, 3)", x.step(7, 3), 1);
        due("step(7, 4)", x.step(7, 4), 0);
        due("step(0, -1)", x.step(0, -1), Bench.OUTSIDE);
        due("step(7, 7)", x.step(7, 7), Bench.OUTSIDE);
        for (int wild : WILD) {
            due("step(0, " + wild + ")", x.step(0, wild), Bench.OUTSIDE);
            due("step(" + wild + ", 0)", x.step(wild, 0), Bench.UNKNOWN);
        }
        for (int what = 0; what <= 6; what++) {
            due("step(-1, " + what + ")", x.step(-1, what), Bench.UNKNOWN);
            due("step(8, " + what + ")", x.step(8, what), Bench.UNKNOWN);
        }
        // A text with fewer steps than the one ahead of it.
        Bench.tell(x, "t;w0;r0;");
        due("step(1, 0)", x.step(1, 0), 0);
        due("step(2, 0)", x.step(2, 0), Bench.UNKNOWN);
    }

    private static void pair() {
        Bench.sentence("Of two STEPS, the first ahead of the other in one THREAD:");
        FenceWays x = Bench.made("t;w0;r1;t;w1;r0;r0;");
        due("pair(0, 1, 0)", x.pair(0, 1, 0), 1);
        due("pair(2, 4, 3)", x.pair(2, 4, 3), 1);
        due("pair(3, 4, 0)", x.pair(3, 4, 0), 0);
        // Of unlike cells, and free to overtake, but in no ring.
        FenceWays y = Bench.made("t;w0;r1;r2;t;r0;");
        y.fence(2, true);
        for (int what = 0; what <= 3; what++) {
            due("no pair, " + what, y.pair(1, 2, what), 0);
        }
        Bench.sentence("3 to how many RINGS they are given. UNKNOWN, OUTSIDE, NOT: not such ones.");
        due("pair(0, 1, 3)", x.pair(0, 1, 3), 2);
        due("pair(3, 4, 3)", x.pair(3, 4, 3), 0);
        due("pair(0, 1, -1)", x.pair(0, 1, -1), Bench.OUTSIDE);
        due("pair(0, 1, 4)", x.pair(0, 1, 4), Bench.OUTSIDE);
        for (int what = 0; what <= 3; what++) {
            due("pair(1, 0, " + what + ")", x.pair(1, 0, what), Bench.NOT);
            due("pair(4, 3, " + what + ")", x.pair(4, 3, what), Bench.NOT);
            due("pair(1, 2, " + what + ")", x.pair(1, 2, what), Bench.NOT);
            due("pair(0, 3, " + what + ")", x.pair(0, 3, what), Bench.NOT);
            due("pair(-1, 0, " + what + ")", x.pair(-1, 0, what), Bench.UNKNOWN);
            due("pair(4, 5, " + what + ")", x.pair(4, 5, what), Bench.UNKNOWN);
            due("pair(5, 4, " + what + ")", x.pair(5, 4, what), Bench.UNKNOWN);
        }
        for (int wild : WILD) {
            due("pair(" + wild + ", 1, 0)", x.pair(wild, 1, 0), Bench.UNKNOWN);
            due("pair(0, " + wild + ", 0)", x.pair(0, wild, 0), Bench.UNKNOWN);
            due("pair(0, 1, " + wild + ")", x.pair(0, 1, wild), Bench.OUTSIDE);
        }
        Bench.sentence("one twice, where two are asked)");
        for (int s = 0; s <= 4; s++) {
            due("pair(" + s + ", " + s + ", 0)", x.pair(s, s, 0), Bench.UNKNOWN);
        }
        due("pair(1, 1, 4)", x.pair(1, 1, 4), Bench.UNKNOWN);
    }

    private static void reading() {
        Bench.sentence("The i-th least of READINGS (what = 0), STRICT ones (1), STRAY ones (2); NONE: not so many. OUTSIDE (what).");
        FenceWays x = Bench.made(Bench.CROSSED);
        int[][] want = {{0, 1, 27, 28}, {1, 27, 28}, {0}};
        for (int what = 0; what <= 2; what++) {
            for (int i = 0; i < want[what].length; i++) {
                due("reading(" + i + ", " + what + ")", x.reading(i, what), want[what][i]);
            }
            due("one too many, " + what, x.reading(want[what].length, what), Bench.NONE);
            due("reading(-1, " + what + ")", x.reading(-1, what), Bench.NONE);
            for (int wild : WILD) {
                due("reading(" + wild + ", " + what + ")", x.reading(wild, what), Bench.NONE);
            }
        }
        for (int what : new int[] {-1, 3, Bench.LEAST, Bench.MOST}) {
            due("reading(0, " + what + ")", x.reading(0, what), Bench.OUTSIDE);
            due("reading(-1, " + what + ")", x.reading(-1, what), Bench.OUTSIDE);
            due("reading(9, " + what + ")", x.reading(9, what), Bench.OUTSIDE);
        }
        FenceWays y = Bench.made("t;r0;r0;t;r0;r0;t;w0;w0;w0;w0;");
        int last = ((8 * 9 + 8) * 9 + 8) * 9 + 8;
        due("the last of the most", y.reading(224, 0), last);
        due("one behind", y.reading(225, 0), Bench.NONE);
        int former = Bench.NONE;
        for (int i = 0; i < 225; i++) {
            int next = y.reading(i, 0);
            due("each is above the former, " + i, next > former ? 1 : 0, 1);
            former = next;
        }
    }

    private static void can() {
        Bench.sentence("Whether a number is a READING: 2 a STRICT one, 1 a STRAY one, 0 none.");
        FenceWays x = Bench.made(Bench.CROSSED);
        int[] numbers = {-1, 0, 1, 2, 26, 27, 28, 29, 43046720, 43046721, Bench.MOST, Bench.LEAST, Bench.UNKNOWN};
        int[] want = {0, 1, 2, 0, 0, 2, 2, 0, 0, 0, 0, 0, 0};
        for (int i = 0; i < numbers.length; i++) {
            due("can(" + numbers[i] + ")", x.can(numbers[i]), want[i]);
        }
        x.fence(1, true);
        due("can(0) behind one fence", x.can(0), 1);
        x.fence(3, true);
        due("can(0) behind both", x.can(0), 0);
        FenceWays y = Bench.made("t;r0;r0;r0;r0;r0;r0;r0;t;w0;");
        due("can(the most)", y.can(4782968), 2);
        due("can(one more)", y.can(4782969), 0);
        due("can(one less)", y.can(4782967), 0);
    }
}
