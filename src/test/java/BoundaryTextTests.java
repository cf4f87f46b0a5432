import java.io.IOException;

/** Boundaries of the text, of steps, gaps, waiting and readings: the document's Terms, part 1, and promises 1 to 4. */
public final class BoundaryTextTests {
    private static final int LETTERS = 120;

    public static void main(String[] args) throws IOException {
        Bench.begin("BoundaryTextTests", args);
        newObject();
        calls();
        letters();
        textLength();
        threadsAtMost();
        cells();
        stepsAtMost();
        oneFigure();
        oneLetter();
        blanks();
        firstFault();
        leastFault();
        aheadOfThread();
        cellAbove();
        atTheWord();
        emptyText();
        allThereIs();
        oneTextBehindTheOther();
        faultLeavesAll();
        faultPlace();
        firstStepsHaveNoGap();
        gapsAtFirst();
        overtakingAtFirst();
        waiting();
        waitingNoFarther();
        written();
        figures();
        noneReads();
        strict();
        Bench.end();
    }

    private static void due(String call, long got, long want) {
        Bench.due(call, got, want);
    }

    /** number 0: no fault. */
    private static void faultOf(String text, int number, int place) {
        FenceWays x = Bench.made(Bench.CROSSED);
        due("threads() of '" + text + "'", Bench.tell(x, text), -10 - number);
        due("fault() of '" + text + "'", x.fault(), place);
        due("told(2) behind '" + text + "'", x.told(2), 0);
    }

    private static void stepsOf(String text, int threads, int steps) {
        FenceWays x = new FenceWays();
        due("threads() of '" + text + "'", Bench.tell(x, text), steps);
        due("fault() of '" + text + "'", x.fault(), Bench.NONE);
        due("told(0) of '" + text + "'", x.told(0), threads);
        due("told(1) of '" + text + "'", x.told(1), steps);
    }

    private static void newObject() {
        Bench.sentence("`FenceWays()`: No THREADS.");
        FenceWays x = new FenceWays();
        int[] want = {0, 0, 0, 15, 0, 0, 1, 1, 0, 0, 0, 0, 1, 0, 0, 0, 0, -1, 0};
        for (int what = 0; what < want.length; what++) {
            due("told(" + what + ")", x.told(what), want[what]);
        }
        due("step(0, 0)", x.step(0, 0), Bench.UNKNOWN);
        due("pair(0, 1, 0)", x.pair(0, 1, 0), Bench.UNKNOWN);
        due("fence(0, true)", x.fence(0, true), Bench.UNKNOWN);
        due("cost(0, 1)", x.cost(0, 1), Bench.UNKNOWN);
        due("undo(1)", x.undo(1), Bench.NOT);
        due("goBack(0)", x.goBack(0), Bench.NOT);
        due("goBack(1)", x.goBack(1), Bench.NOT);
        due("fault()", x.fault(), Bench.NONE);
        due("write(1, false)", x.write(1, false), 1);
        due("told(17)", x.told(17), Bench.NONE);
        due("tear()", x.tear(), 1);
        due("drift(20)", x.drift(20), 0);
        due("seed(0)", x.seed(0), 0);
        due("best()", x.best(), 0);
        due("overtaking(0)", x.overtaking(0), 1);
        due("overtaking(0) as the first call", new FenceWays().overtaking(0), 1);
    }

    private static void calls() {
        Bench.sentence("An object is used for at most 512 calls after it has been made");
        FenceWays x = Bench.made(Bench.CROSSED);
        for (int call = Bench.CROSSED.length() + 2; call < 512; call++) {
            x.overtaking(call * 7 % 16);
        }
        due("told(3) as the 512th call", x.told(3), 511 * 7 % 16);
    }

    private static void letters() {
        Bench.sentence("A letter (0 .. 255) comes behind THE TEXT: how many it has. OUTSIDE, FULL (120).");
        FenceWays x = new FenceWays();
        for (int letter : new int[] {-1, 256, Bench.LEAST, Bench.MOST, 't' + 256, 't' - 256}) {
            due("feed(" + letter + ")", x.feed(letter), Bench.OUTSIDE);
            due("told(2)", x.told(2), 0);
        }
        due("feed(0)", x.feed(0), 1);
        due("feed(255)", x.feed(255), 2);
        for (int many = 3; many <= LETTERS; many++) {
            due("feed(32)", x.feed(32), many);
        }
        due("feed(32) behind 120", x.feed(32), Bench.FULL);
        due("told(2)", x.told(2), LETTERS);
        due("threads()", x.threads(), -11);
        due("feed(32) anew", x.feed(32), 1);
    }

    private static void textLength() {
        Bench.sentence("All is told in a text (120 letters at most)");
        stepsOf(" ".repeat(LETTERS - 2) + "t;", 1, 0);
        stepsOf("t;" + " ".repeat(LETTERS - 5) + "w2;", 1, 1);
        StringBuilder longest = new StringBuilder();
        for (char letter : "t;w0;r1;w2;t;r0;w1;r2;t;w0;r1;".toCharArray()) {
            longest.append(letter).append("   ");
        }
        due("letters of the longest text", longest.length(), LETTERS);
        stepsOf(longest.toString(), 3, 8);
        faultOf(" ".repeat(LETTERS - 1) + "t", 1, LETTERS);
        faultOf(" ".repeat(LETTERS - 1) + "x", 1, LETTERS - 1);
        // What comes behind 120 letters is not of the text, though it would have made it whole, or wrong.
        faultOf(" ".repeat(LETTERS - 1) + "t;", 1, LETTERS);
        stepsOf(" ".repeat(LETTERS - 2) + "t;x", 1, 0);
    }

    private static void threadsAtMost() {
        Bench.sentence("'t' ';' (a THREAD; 3 at most)");
        stepsOf("t;", 1, 0);
        stepsOf("t;t;", 2, 0);
        stepsOf("t;t;t;", 3, 0);
        stepsOf("t;t;t;r0;", 3, 1);
        faultOf("t;t;t;t;", 3, 6);
        faultOf("t;w0;t;w0;t;w0;t;w0;", 3, 15);
        Bench.sentence("(the latest THREAD has one more STEP:");
        FenceWays x = Bench.made("t;w0;t;t;r1;");
        due("thread of the first", x.step(0, 0), 0);
        due("thread of the second", x.step(1, 0), 2);
        x = Bench.made("t;t;r1;w1;t;");
        due("threads", x.told(0), 3);
        due("thread of the first", x.step(0, 0), 1);
        due("thread of the second", x.step(1, 0), 1);
    }

    private static void cells() {
        Bench.sentence("it READS, WRITES CELL C, 0 .. 2;");
        for (char word : "rw".toCharArray()) {
            for (int cell = 0; cell <= 2; cell++) {
                FenceWays x = Bench.made("t;" + word + cell + ";");
                due("steps of " + word + cell, x.told(1), 1);
                due("cell of " + word + cell, x.step(0, 1), cell);
                due("writes of " + word + cell, x.step(0, 2), word == 'w' ? 1 : 0);
            }
            for (int letter = 0; letter <= 255; letter++) {
                if (letter < '0' || letter > '2') {
                    boolean isFigure = letter >= '3' && letter <= '9';
                    faultOf("t;" + word + (char) letter + ";", isFigure ? 2 : 1, letter == ' ' ? 4 : 3);
                }
            }
        }
    }

    private static void stepsAtMost() {
        Bench.sentence("8 STEPS in all at most");
        String eight = "r0;w0;r1;w1;r2;w2;r0;w1;";
        stepsOf("t;" + eight, 1, 8);
        stepsOf("t;t;t;" + eight, 3, 8);
        stepsOf("t;r0;w0;r1;t;w1;r2;w2;t;r0;w1;", 3, 8);
        stepsOf("t;" + eight + "t;t;", 3, 8);
        faultOf("t;" + eight + "r0;", 3, 26);
        faultOf("t;" + eight + "w0;", 3, 26);
        faultOf("t;" + eight + "t;w0;", 3, 28);
        faultOf("t;r0;w0;r1;t;w1;r2;w2;t;r0;w1;w1;", 3, 30);
    }

    private static void oneFigure() {
        Bench.sentence("NUMBERS have one figure;");
        faultOf("t;r00;", 1, 4);
        faultOf("t;w12;", 1, 4);
        faultOf("t;w0 1;", 1, 5);
        faultOf("t;r;", 1, 3);
        faultOf("t;r-1;", 1, 3);
        faultOf("t0;", 1, 1);
    }

    private static void oneLetter() {
        Bench.sentence("a word is one letter;");
        faultOf("tt;", 1, 1);
        faultOf("t;rr0;", 1, 3);
        faultOf("t;rw0;", 1, 3);
        faultOf("t;wr0;", 1, 3);
        faultOf("T;", 1, 0);
        faultOf("t;R0;", 1, 2);
        faultOf("t;W0;", 1, 2);
    }

    private static void blanks() {
        Bench.sentence("blanks (32) may stand anywhere.");
        stepsOf(" t;r0;", 1, 1);
        stepsOf("t ;r0;", 1, 1);
        stepsOf("t; r0;", 1, 1);
        stepsOf("t;r 0;", 1, 1);
        stepsOf("t;r0 ;", 1, 1);
        stepsOf("t;r0; ", 1, 1);
        stepsOf("  t  ;  r  0  ;  ", 1, 1);
        for (int letter : new int[] {0, 9, 10, 13, 31, 33, 160, 255}) {
            faultOf((char) letter + "t;r0;", 1, 0);
            faultOf("t" + (char) letter + ";r0;", 1, 1);
            faultOf("t;" + (char) letter + "r0;", 1, 2);
            faultOf("t;r" + (char) letter + "0;", 1, 3);
            faultOf("t;r0" + (char) letter + ";", 1, 4);
            faultOf("t;r0;" + (char) letter, 1, 5);
        }
    }

    private static void firstFault() {
        Bench.sentence("FAULTS, at the first letter that has one (the end at the text's length)");
        faultOf("x", 1, 0);
        faultOf("t;r3;r3;x", 2, 3);
        faultOf("t;t;t;t;x", 3, 6);
        faultOf("t;x;t;t;t;r9;", 1, 2);
        faultOf("t", 1, 1);
        faultOf("t  ", 1, 3);
        faultOf("t;r", 1, 3);
        faultOf("t;w0", 1, 4);
        faultOf("t;w0 ", 1, 5);
        faultOf("t;;", 1, 2);
        faultOf(";", 1, 0);
        for (int letter = 0; letter <= 255; letter++) {
            boolean isGood = letter == ';';
            if (!isGood && letter != ' ') {
                faultOf("t" + (char) letter, 1, 1);
                faultOf("t;w1" + (char) letter, 1, 4);
            }
            if (letter != ' ' && letter != 't') {
                faultOf("" + (char) letter, 1, 0);
            }
            if (letter != ' ' && "trw".indexOf(letter) < 0) {
                faultOf("t;" + (char) letter, 1, 2);
            }
        }
    }

    private static void leastFault() {
        Bench.sentence("of these the least: 1 it cannot stand there");
        // A fourth 't', a ninth 'r', where nothing but ';' or a cell may stand.
        faultOf("t;t;tt", 1, 5);
        faultOf("t;t;t;rt;", 1, 7);
        faultOf("t;t;t;r0t;", 1, 8);
        faultOf("t;r0;r0;r0;r0;r0;r0;r0;r0r", 1, 25);
        faultOf("t;r0;r0;r0;r0;r0;r0;r0;r0;9", 1, 26);
        // A cell above 2 in a ninth step: the word is ahead of it.
        faultOf("t;r0;r0;r0;r0;r0;r0;r0;r0;r9;", 3, 26);
        faultOf("t;9;", 1, 2);
    }

    private static void aheadOfThread() {
        Bench.sentence("(an 'r', a 'w' ahead of a 't', too)");
        faultOf("r0;", 1, 0);
        faultOf("w0;", 1, 0);
        faultOf("  r0;t;", 1, 2);
        faultOf(" w9;", 1, 1);
    }

    private static void cellAbove() {
        Bench.sentence("2 a CELL above 2 (at it).");
        for (int figure = 3; figure <= 9; figure++) {
            faultOf("t;r" + figure + ";", 2, 3);
            faultOf("t;w  " + figure, 2, 5);
        }
        faultOf("t;r39;", 2, 3);
        stepsOf("t;r2;w2;", 1, 2);
    }

    private static void atTheWord() {
        Bench.sentence("3 a fourth 't', a ninth STEP (at the word).");
        faultOf("t;t;t;   t", 3, 9);
        faultOf("t;t;t;t", 3, 6);
        faultOf("t;r0;r0;r0;r0;r0;r0;r0;r0;  w", 3, 28);
        faultOf("t;r0;r0;r0;r0;r0;r0;r0;r0;r", 3, 26);
        faultOf("t;r0;r0;r0;r0;r0;r0;r0;r0;t;t;t;", 3, 30);
    }

    private static void emptyText() {
        Bench.sentence("An empty text (or one of blanks alone): no THREADS.");
        for (String text : new String[] {"", " ", "   ", " ".repeat(LETTERS)}) {
            stepsOf(text, 0, 0);
            FenceWays x = Bench.made(Bench.CROSSED);
            due("threads() of " + text.length() + " blanks", Bench.tell(x, text), 0);
            due("told(0)", x.told(0), 0);
            due("told(6)", x.told(6), 1);
            due("told(9)", x.told(9), 0);
            due("step(0, 0)", x.step(0, 0), Bench.UNKNOWN);
            due("fence(1, true)", x.fence(1, true), Bench.UNKNOWN);
        }
    }

    private static void allThereIs() {
        Bench.sentence("becomes all there is (no BOOK; IMAGES, what could be undone are gone; THE SEED stays): STEPS;");
        for (String text : new String[] {Bench.CROSSED, "t;w2;w1;", "t;", ""}) {
            FenceWays x = Bench.rich();
            int seed = Bench.seedOf(x);
            x.feed(';');
            x.threads();
            x.write(1, true);
            x.keep(0);
            x.keep(1);
            x.overtaking(3);
            int steps = Bench.tell(x, text);
            due("steps", steps, x.told(1));
            due("entries", x.told(16), 0);
            due("can be undone", x.told(18), 0);
            due("undo(1)", x.undo(1), Bench.NOT);
            due("goBack(0)", x.goBack(0), Bench.NOT);
            due("goBack(1)", x.goBack(1), Bench.NOT);
            due("fences", x.told(4), 0);
            due("overtaking", x.told(3), 15);
            for (int s = 0; s < steps; s++) {
                due("cost", Math.abs(x.step(s, 3)), 1);
            }
            due("letters", x.told(2), 0);
            due("fault()", x.fault(), Bench.NONE);
            due("the seed", x.seed(0), seed);
        }
    }

    private static void oneTextBehindTheOther() {
        Bench.sentence("THE TEXT (it is empty then, with a FAULT, too) becomes all there is");
        String[] texts = {
            "t;w0;r1;r2;t;w1;r0;t;w2;r0;r1;", "t;r0;", Bench.CROSSED, "", "t;w0;t;r0;w1;r0;t;r0;w1;r0;",
            "t;r0;r1;t;r1;r0;", Bench.LONG, "t;w0;w1;t;r1;r0;", "t;t;r0;t;w0;r0;"};
        for (int i = 0; i < texts.length; i++) {
            for (int j = 0; j < texts.length; j++) {
                FenceWays x = Bench.made(texts[i]);
                Bench.asked(x);
                Bench.tell(x, texts[j]);
                Bench.alike(texts[i] + " ahead of " + texts[j], Bench.asked(x), Bench.asked(Bench.made(texts[j])));
                // What the first text left behind must not come up with the third.
                Bench.tell(x, texts[(i + j) % texts.length]);
                Bench.alike("two texts ahead", Bench.asked(x), Bench.asked(Bench.made(texts[(i + j) % texts.length])));
            }
        }
    }

    private static void faultLeavesAll() {
        Bench.sentence("-10 less the number of its FAULT (all else is as it was).");
        String[] texts = {";x", ";r3;", ";t;t;t;"};
        int[] faults = {1, 2, 3};
        for (int i = 0; i < texts.length; i++) {
            FenceWays x = Bench.rich();
            due("threads()", Bench.tell(x, texts[i]), -10 - faults[i]);
            // The text and the fault are others now; this puts both back.
            Bench.tell(x, "t;r3");
            Bench.feedAll(x, "t;w0");
            Bench.alike("a fault " + faults[i], Bench.whole(x), Bench.whole(Bench.rich()));
        }
        Bench.sentence("(it is empty then, with a FAULT, too)");
        FenceWays x = new FenceWays();
        Bench.feedAll(x, "t;t");
        due("told(2)", x.told(2), 3);
        due("threads()", x.threads(), -11);
        due("told(2) behind a fault", x.told(2), 0);
        due("threads() again", x.threads(), 0);
        Bench.feedAll(x, "t;t;");
        due("threads()", x.threads(), 0);
        due("told(2) without a fault", x.told(2), 0);
    }

    private static void faultPlace() {
        Bench.sentence("The place (from 0 on) of the letter that has the FAULT of the latest threads(); NONE.");
        FenceWays x = new FenceWays();
        due("fault() ahead of all", x.fault(), Bench.NONE);
        Bench.feedAll(x, "t;x");
        due("fault() ahead of threads()", x.fault(), Bench.NONE);
        x.threads();
        due("fault()", x.fault(), 2);
        Bench.feedAll(x, "x");
        x.feed(-1);
        x.told(99);
        due("fault() until threads() comes again", x.fault(), 2);
        x.threads();
        due("fault() of the latest", x.fault(), 0);
        x.threads();
        due("fault() of an empty text", x.fault(), Bench.NONE);
        due("fault() of the last letter", faultAt(LETTERS - 1), LETTERS - 1);
        due("fault() of the end", faultAt(LETTERS), LETTERS);
    }

    private static int faultAt(int place) {
        FenceWays x = Bench.made(" ".repeat(LETTERS - 1) + (place < LETTERS ? "x" : "t"));
        return x.fault();
    }

    private static void firstStepsHaveNoGap() {
        Bench.sentence("it has the number of the latter STEP (so first STEPS of THREADS have none).");
        int[] gapsOf = {
            gapsOf(Bench.LONG), gapsOf("t;w0;t;w0;t;w0;"), gapsOf("t;t;w0;w0;"), gapsOf("t;w0;w0;t;t;w0;w0;"),
            gapsOf("t;r0;r0;r0;t;r0;r0;t;r0;r0;r0;"), gapsOf("t;w0;"), gapsOf("t;t;t;"), gapsOf("")};
        int[] want = {254, 0, 2, 2 + 8, 2 + 4 + 16 + 64 + 128, 0, 0, 0};
        for (int i = 0; i < want.length; i++) {
            due("gaps of text " + i, gapsOf[i], want[i]);
        }
    }

    /** Those of the steps -1 to 9 that take a fence. */
    private static int gapsOf(String text) {
        FenceWays x = Bench.made(text);
        int gaps = 0;
        for (int gap = -1; gap <= 9; gap++) {
            boolean isGap = x.step(gap, 3) > 0;
            due("step(" + gap + ", 4) has a gap", x.step(gap, 4) >= 0 ? 1 : 0, isGap ? 1 : 0);
            due("cost(" + gap + ", 1)", x.cost(gap, 1), isGap ? 1 : Bench.UNKNOWN);
            if (x.fence(gap, true) != Bench.UNKNOWN) {
                gaps |= 1 << gap;
            }
        }
        due("fences", x.told(4), gaps);
        return gaps;
    }

    private static void gapsAtFirst() {
        Bench.sentence("A GAP has a COST (1 .. 9; 1 at first), and a FENCE, or none (at first).");
        FenceWays x = Bench.made(Bench.LONG);
        due("fences at first", x.told(4), 0);
        due("their cost", x.told(5), 0);
        due("cost of no gap", x.step(0, 3), Bench.NONE);
        for (int gap = 1; gap <= 7; gap++) {
            due("cost at first", x.step(gap, 3), 1);
            due("fence(" + gap + ", true)", x.fence(gap, true), gap);
        }
        for (int gap = 1; gap <= 7; gap++) {
            x.cost(gap, 9);
        }
        due("all fences", x.told(4), 254);
        due("all for the most", x.told(5), 63);
    }

    private static void overtakingAtFirst() {
        Bench.sentence("may be done ahead of it (15 at first).");
        FenceWays x = Bench.made("t;w0;r1;t;w0;w1;t;r0;r1;");
        FenceWays y = Bench.made("t;r0;w1;");
        due("told(3)", x.told(3), 15);
        int[] latter = {1, 3, 5};
        for (int set = 0; set <= 15; set++) {
            x.overtaking(set);
            y.overtaking(set);
            for (int kind = 0; kind <= 2; kind++) {
                int s = latter[kind];
                due("kind " + kind + " with " + set, x.step(s, 5), (set >> kind & 1) != 0 ? 0 : 1 << s - 1);
            }
            due("kind 3 with " + set, y.step(1, 5), (set & 8) != 0 ? 0 : 1);
        }
    }

    private static void waiting() {
        Bench.sentence("A STEP must WAIT for a STEP ahead of it in its THREAD, if both are of the same CELL, "
            + "or there is a FENCE in a GAP between, or their KIND may not overtake.");
        waitsWith(0, 0, 0, 0, 1);
        waitsWith(2, 0, 1, 1, 1);
        waitsWith(4, 0, 0, 3, 3);
        waitsWith(8, 0, 0, 0, 7);
        waitsWith(14, 0, 1, 3, 7);
        FenceWays x = Bench.made("t;w0;t;w0;w1;");
        x.overtaking(0);
        due("nobody waits for other threads", x.step(1, 5), 0);
        due("the last waits for its own thread", x.step(2, 5), 2);
        x = Bench.made(Bench.LONG);
        due("the eighth waits for all of its cell", x.step(7, 5), 127);
    }

    /** For whom the four steps must wait behind these fences. */
    private static void waitsWith(int fences, int... want) {
        FenceWays x = Bench.made("t;w0;w1;w2;r0;");
        for (int gap = 1; gap <= 3; gap++) {
            x.fence(gap, (fences >> gap & 1) != 0);
        }
        for (int s = 0; s < want.length; s++) {
            due("step(" + s + ", 5) with fences " + fences, x.step(s, 5), want[s]);
        }
    }

    private static void waitingNoFarther() {
        Bench.sentence("(All others it may overtake; WAIT goes from STEP to STEP, no farther.)");
        FenceWays x = Bench.made("t;r0;r1;w1;");
        x.overtaking(11);
        due("the second waits for the first", x.step(1, 5), 1);
        due("the third waits for the second alone", x.step(2, 5), 2);
        // The second may overtake the first, so a later step can be seen ahead of an earlier one.
        FenceWays y = Bench.made("t;w0;w1;t;r1;w2;t;r2;r0;");
        y.fence(3, true);
        y.fence(5, true);
        due("can(2 * 81 + 4 * 9)", y.can(2 * 81 + 4 * 9), 1);
    }

    private static void written() {
        Bench.sentence("at first all CELLS are 0; STEP k that WRITES makes its CELL k and 1;");
        for (int cell = 0; cell <= 2; cell++) {
            due("a cell at first", Bench.made("t;r" + cell + ";").reading(0, 0), 0);
            due("the first step's", Bench.made("t;w" + cell + ";r" + cell + ";").reading(0, 0), 1);
        }
        due("the seventh step's", Bench.made("t;w0;w0;w0;w0;w0;w0;w0;r0;").reading(0, 0), 7);
        FenceWays x = Bench.made("t;r0;t;w0;w0;w0;w0;w0;w0;w0;");
        due("what the first may read", x.told(6), 8);
        due("nothing written", x.reading(0, 0), 0);
        for (int i = 1; i <= 7; i++) {
            due("step " + i, x.reading(i, 0), i + 1);
        }
    }

    private static void figures() {
        Bench.sentence("as figures of 9 (the first the highest), is the READING");
        due("1, 0", Bench.made("t;w0;r0;r1;").reading(0, 0), 9);
        due("0, 1", Bench.made("t;w0;r1;r0;").reading(0, 0), 1);
        FenceWays x = Bench.made("t;r0;r0;r0;r0;r0;r0;r0;t;w0;");
        int most = 0;
        for (int i = 0; i <= 7; i++) {
            due("the last " + i + " read 8", x.reading(i, 0), most);
            most = most * 9 + 8;
        }
        due("readings", x.told(6), 8);
        x = Bench.made("t;r0;r0;r0;r0;r0;r0;r0;r0;");
        due("eight that read", x.told(6), 1);
        due("eight that read", x.reading(0, 0), 0);
        // The order is that of steps, not that in which they are done.
        x = Bench.made("t;r0;t;w0;r0;");
        due("the first step's figure is the highest", x.reading(1, 0), 2 * 9 + 2);
        due("the most readings", Bench.made("t;r0;r0;t;r0;r0;t;w0;w0;w0;w0;").told(6), 225);
    }

    private static void noneReads() {
        Bench.sentence("is the READING (0, if none READS).");
        for (String text : new String[] {"", "t;", "t;t;t;", "t;w0;", Bench.LONG, "t;w0;w1;t;w1;w0;"}) {
            FenceWays x = Bench.made(text);
            due("readings of '" + text + "'", x.told(6), 1);
            due("reading(0, 0) of '" + text + "'", x.reading(0, 0), 0);
            due("reading(0, 1) of '" + text + "'", x.reading(0, 1), 0);
            due("reading(0, 2) of '" + text + "'", x.reading(0, 2), Bench.NONE);
            due("can(0) of '" + text + "'", x.can(0), 2);
            due("can(1) of '" + text + "'", x.can(1), 0);
        }
    }

    private static void strict() {
        Bench.sentence("STRICT ones: as if nothing may overtake.");
        FenceWays x = Bench.made(Bench.CROSSED);
        for (int set = 0; set <= 15; set++) {
            x.overtaking(set);
            due("strict ones with " + set, x.told(7), 3);
            due("the least with " + set, x.reading(0, 1), 1);
            due("readings with " + set, x.told(6), (set & 1) != 0 ? 4 : 3);
        }
        x.fence(1, true);
        x.fence(3, true);
        due("strict ones behind fences", x.told(7), 3);
        due("readings behind fences", x.told(6), 3);
    }
}
