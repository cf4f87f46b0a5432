import java.io.IOException;
import java.nio.file.Files;
import java.nio.file.Path;

/**
 * What the boundary tests share: sentences of the document, what is due under
 * each, and looks at an object that show whether a call changed it.
 */
final class Bench {
    static final int NONE = -1, UNKNOWN = -1000000001, OUTSIDE = -1000000002, NOT = -1000000003, FULL = -1000000004;
    static final int LEAST = Integer.MIN_VALUE, MOST = Integer.MAX_VALUE;

    /** Each of two threads writes a cell and then reads the other's. */
    static final String CROSSED = "t;w0;r1;t;w1;r0;";
    /** Eight steps of one cell in one thread: every gap from 1 to 7 is there. */
    static final String LONG = "t;w0;w0;w0;w0;w0;w0;w0;w0;";

    private static String name = "";
    private static String document = "";
    private static String sentence = "";
    private static int sentences = 0;
    private static int passed = 0;
    private static int failed = 0;

    private Bench() {
    }

    /** The arguments are those that .ci/run gives: the path of FenceWays.java, that of DOC.md. */
    static void begin(String nameOfTest, String[] args) throws IOException {
        name = nameOfTest;
        document = folded(Files.readString(Path.of(args[1])));
    }

    /** What is due from here on is due by these words; they must stand in the document. */
    static void sentence(String words) {
        sentence = words;
        sentences++;
        due("these words stand in the document", document.contains(folded(words)) ? 1 : 0, 1);
    }

    static void due(String call, long got, long want) {
        if (got == want) {
            passed++;
        } else {
            failed++;
            System.out.println(name + ": \"" + sentence + "\": " + call + " answered " + got + ", due is " + want);
        }
    }

    static void alike(String call, String got, String want) {
        due(call + " leaves all as it was", got.equals(want) ? 1 : 0, 1);
    }

    static void end() {
        System.out.println(sentences + " sentences: " + passed + " passed, " + failed + " failed");
        if (failed != 0) {
            System.exit(1);
        }
    }

    static FenceWays made(String text) {
        FenceWays x = new FenceWays();
        tell(x, text);
        return x;
    }

    static int tell(FenceWays x, String text) {
        feedAll(x, text);
        return x.threads();
    }

    static void feedAll(FenceWays x, String text) {
        for (int i = 0; i < text.length(); i++) {
            x.feed(text.charAt(i));
        }
    }

    static int seedOf(FenceWays x) {
        int seed = x.seed(0);
        x.seed(seed);
        return seed;
    }

    /** Something of everything: deeds to undo, both images, a book, a seed, a fault, a text begun. */
    static FenceWays rich() {
        FenceWays x = made("t;w0;r1;t;w1;r0;w2;");
        x.seed(77);
        x.write(0, true);
        x.write(5, false);
        x.overtaking(13);
        x.keep(0);
        x.seed(2147483000);
        x.fence(1, true);
        x.cost(3, 4);
        x.keep(1);
        x.fence(3, true);
        x.cost(4, 7);
        x.overtaking(11);
        x.drift(2);
        x.best();
        tell(x, "t;r3");
        feedAll(x, "t;w0");
        return x;
    }

    /** The same, with a text and a book that take no more. */
    static FenceWays full() {
        FenceWays x = rich();
        feedAll(x, ";" + " ".repeat(115));
        for (int i = 0; i < 18; i++) {
            x.write(1, true);
        }
        return x;
    }

    /** All that can be asked, and then, from the object's end, all that it could have gone back to. */
    static String whole(FenceWays x) {
        return asked(x) + unwound(x);
    }

    static String asked(FenceWays x) {
        StringBuilder all = new StringBuilder();
        for (int what = 0; what <= 18; what++) {
            all.append(x.told(what)).append(' ');
        }
        int steps = x.told(1);
        for (int s = 0; s < steps; s++) {
            for (int what = 0; what <= 6; what++) {
                all.append(x.step(s, what)).append(' ');
            }
        }
        for (int what = 0; what <= 3; what++) {
            all.append(x.pair(0, 1, what)).append(' ').append(x.pair(2, 3, what)).append(' ');
        }
        for (int what = 0; what <= 2; what++) {
            for (int i = 0; i < 6; i++) {
                all.append(x.reading(i, what)).append(' ');
            }
        }
        return all.append(x.fault()).append(' ').append(seedOf(x)).append('\n').toString();
    }

    private static String unwound(FenceWays x) {
        StringBuilder all = new StringBuilder();
        int deeds = x.told(18);
        for (int i = 0; i < deeds; i++) {
            all.append(x.undo(1)).append(' ').append(setting(x));
        }
        for (int image = 0; image <= 1; image++) {
            all.append(x.goBack(image)).append(' ').append(setting(x)).append(seedOf(x)).append(' ');
        }
        // Which entry is wrong hangs on the readings, so that other entries would show.
        x.overtaking(0);
        all.append(x.told(17)).append(' ').append(x.tear()).append(' ').append(x.tear()).append(' ');
        all.append(x.threads()).append(' ').append(x.fault()).append(' ').append(x.told(0));
        return all.toString();
    }

    /** Fences, costs and overtaking. */
    static String setting(FenceWays x) {
        StringBuilder all = new StringBuilder();
        all.append(x.told(4)).append(' ').append(x.told(3)).append(' ');
        int steps = x.told(1);
        for (int s = 0; s < steps; s++) {
            all.append(x.step(s, 3)).append(' ');
        }
        return all.toString();
    }

    private static String folded(String text) {
        return text.replaceAll("\\s+", " ");
    }
}
