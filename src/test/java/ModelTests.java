import java.util.Random;

/** Runs of drawn calls, each answer held against the plain model. The draws are the same each time. */
public final class ModelTests {
    private static final int RUNS = Integer.getInteger("runs", 500);
    private static final int MOST_CALLS = 512;

    private final Random random;
    private final StringBuilder calls = new StringBuilder();
    private FenceWays x = new FenceWays();
    private Model y = new Model();
    private boolean wrong = false;

    private ModelTests(long seed) {
        random = new Random(seed);
    }

    public static void main(String[] args) {
        int failed = 0;
        for (int run = 0; run < RUNS; run++) {
            ModelTests test = new ModelTests(run + Integer.getInteger("from", 0));
            test.go();
            if (test.wrong) {
                failed++;
            }
        }
        failed += everySmallText();
        System.out.println(RUNS + 1 - failed + " passed, " + failed + " failed");
        if (failed != 0) {
            System.exit(1);
        }
    }

    /** Behind some beginnings all that up to four letters can be: faults and their places. */
    private static int everySmallText() {
        String letters = "trw;023 x";
        String[] heads = {"", "t;", "t;r0;", "t;t;t;", "t;w0;w0;w0;w0;w0;w0;w0;", "t;w0;w0;w0;w0;w0;w0;w0;r1;"};
        int wrong = 0;
        for (String head : heads) {
            wrong += tailsOf(head, letters, 4);
        }
        return wrong == 0 ? 0 : 1;
    }

    private static int tailsOf(String text, String letters, int more) {
        int wrong = isAlike(text) ? 0 : 1;
        for (int i = 0; i < letters.length() && more > 0; i++) {
            wrong += tailsOf(text + letters.charAt(i), letters, more - 1);
        }
        return wrong;
    }

    private static boolean isAlike(String text) {
        FenceWays x = new FenceWays();
        Model y = new Model();
        for (int i = 0; i < text.length(); i++) {
            x.feed(text.charAt(i));
            y.feed(text.charAt(i));
        }
        boolean alike = x.threads() == y.threads() && x.fault() == y.fault() && x.told(0) == y.told(0);
        if (!alike) {
            System.out.println("ModelTests: the text '" + text + "'");
        }
        return alike;
    }

    private void go() {
        int count = 0;
        while (count < MOST_CALLS - 140 && !wrong) {
            count += count == 0 || random.nextInt(40) == 0 ? tellText() : oneCall();
        }
    }

    private int below(int n) {
        return random.nextInt(n);
    }

    private void due(String call, int got, int want) {
        calls.append(call).append(' ');
        if (got != want && !wrong) {
            wrong = true;
            System.out.println("ModelTests: " + calls + "answered " + got + ", due is " + want);
        }
    }

    private int tellText() {
        String text = drawnText();
        for (int i = 0; i < text.length(); i++) {
            int letter = text.charAt(i);
            due("feed(" + letter + ")", x.feed(letter), y.feed(letter));
        }
        due("threads()", x.threads(), y.threads());
        due("fault()", x.fault(), y.fault());
        for (int what = 0; what <= 18; what++) {
            due("told(" + what + ")", x.told(what), y.told(what));
        }
        return text.length() + 21;
    }

    private String drawnText() {
        StringBuilder text = new StringBuilder();
        int threads = below(8) == 0 ? below(4) : 2 + below(2);
        int steps = threads == 0 ? 0 : below(3) == 0 ? below(9) : 5 + below(4);
        int cells = 1 + below(3);
        int writing = 1 + below(4);
        for (int t = 0; t < threads; t++) {
            text.append("t;");
            int mine = t == threads - 1 ? steps : Math.min(steps, below(5));
            steps -= mine;
            for (int s = 0; s < mine; s++) {
                text.append(below(5) < writing ? 'w' : 'r').append(below(cells)).append(';');
            }
        }
        if (below(10) == 0 && text.length() > 0) {
            text.setCharAt(below(text.length()), "trw;0123 x".charAt(below(10)));
        }
        for (int blanks = below(3) == 0 ? below(4) : 0; blanks > 0; blanks--) {
            text.insert(below(text.length() + 1), ' ');
        }
        return text.toString();
    }

    /** Mostly a step or gap that may be there, now and then one that is not. */
    private int aStep() {
        return below(30) == 0 ? wild() : below(10) - 1;
    }

    private int wild() {
        int[] some = {Integer.MIN_VALUE, Integer.MAX_VALUE, 31, 32, 33, 64, -32, -1000000001};
        int k = below(some.length * 2);
        return k < some.length ? some[k] : random.nextInt();
    }

    private int aNumber() {
        int count = y.told(6);
        if (below(2) == 0 && count > 0) {
            return y.reading(below(count), 0);
        }
        return below(20) == 0 ? 43046720 + below(3) - 1 : below(200) - 2;
    }

    private int oneCall() {
        int a = aStep();
        int b = aStep();
        int c = below(40) == 0 ? wild() : below(9) - 1;
        boolean is = below(3) != 0;
        switch (below(20)) {
            case 0: case 1: case 2:
                int what = below(40) == 0 ? wild() : below(21) - 1;
                due("told(" + what + ")", x.told(what), y.told(what));
                break;
            case 3: case 4:
                due("step(" + a + ", " + c + ")", x.step(a, c), y.step(a, c));
                break;
            case 5: case 6:
                int d = c % 5;
                due("pair(" + a + ", " + b + ", " + d + ")", x.pair(a, b, d), y.pair(a, b, d));
                break;
            case 7: case 8:
                int i = below(30) == 0 ? wild() : below(40) - 2;
                int kind = below(5) - 1;
                due("reading(" + i + ", " + kind + ")", x.reading(i, kind), y.reading(i, kind));
                break;
            case 9:
                int number = aNumber();
                due("can(" + number + ")", x.can(number), y.can(number));
                break;
            default:
                change(a, is);
                int asked = below(2) == 0 ? 6 : 3 + below(16);
                due("told(" + asked + ")", x.told(asked), y.told(asked));
        }
        return 2;
    }

    private void change(int a, boolean is) {
        int n = below(40) == 0 ? wild() : below(4) == 0 ? below(24) - 1 : 1 + below(4);
        int v = below(40) == 0 ? wild() : below(12) - 1;
        int i = below(40) == 0 ? wild() : below(10) == 0 ? below(5) - 2 : below(2);
        switch (below(12)) {
            case 0: case 1: case 2:
                due("fence(" + a + ", " + is + ")", x.fence(a, is), y.fence(a, is));
                break;
            case 3:
                due("cost(" + a + ", " + v + ")", x.cost(a, v), y.cost(a, v));
                break;
            case 4:
                int set = below(18) - 1;
                due("overtaking(" + set + ")", x.overtaking(set), y.overtaking(set));
                break;
            case 5:
                due("best()", x.best(), y.best());
                break;
            case 6:
                due("drift(" + n + ")", x.drift(n), y.drift(n));
                break;
            case 7:
                due("undo(" + n + ")", x.undo(n), y.undo(n));
                break;
            case 8:
                int number = aNumber();
                due("write(" + number + ", " + is + ")", x.write(number, is), y.write(number, is));
                break;
            case 9:
                if (below(6) == 0) {
                    due("tear()", x.tear(), y.tear());
                } else {
                    int seed = below(10) == 0 ? -below(9) : random.nextInt() >>> 1;
                    due("seed(" + seed + ")", x.seed(seed), y.seed(seed));
                }
                break;
            case 10:
                due("keep(" + i + ")", x.keep(i), y.keep(i));
                break;
            default:
                due("goBack(" + i + ")", x.goBack(i), y.goBack(i));
        }
    }
}
