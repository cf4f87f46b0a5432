import java.io.IOException;
import java.io.StringWriter;
import java.net.URL;
import java.net.URLClassLoader;
import java.nio.file.Files;
import java.nio.file.Path;
import java.util.ArrayList;
import java.util.Comparator;
import java.util.List;
import java.util.Set;
import java.util.TreeSet;
import java.util.regex.Matcher;
import java.util.regex.Pattern;
import java.util.stream.Collectors;
import java.util.stream.Stream;
import javax.tools.JavaCompiler;
import javax.tools.ToolProvider;

/**
 * README.md: each answer that its examples tell is the one that the class gives, every call
 * is shown, and the files that it names, and all tests, are there. The first argument is the
 * path of FenceWays.java.
 */
public final class ReadmeTests {
    private static final Pattern EXAMPLE = Pattern.compile("(?s)```java\\n(.*?)```");
    private static final Pattern CALL = Pattern.compile("x\\.(\\w+\\(.*?\\));(.*)");
    private static final Pattern ANSWER = Pattern.compile("\\s+// (-?\\d+|[A-Z]+)\\b.*");
    private static final String FACE =
        "feed threads fault told step pair reading can fence cost overtaking best drift undo write tear seed keep goBack";

    private static int passed = 0;
    private static int failed = 0;

    /** What an example answered; its code calls this, so that the answers come with their calls. */
    public static final class Told {
        private Told() {
        }

        public static void due(String call, int got, int want) {
            ReadmeTests.due(call + " answers " + got + ", README.md tells " + want, got == want);
        }
    }

    public static void main(String[] args) throws Exception {
        Path root = Path.of(args[0]).toAbsolutePath().getParent().getParent().getParent().getParent();
        String readme = Files.readString(root.resolve("README.md"));
        List<String> examples = examplesOf(readme);
        due("README.md has examples", !examples.isEmpty());
        for (int i = 0; i < examples.size(); i++) {
            run("Example" + i, examples.get(i));
        }
        everyCallIsShown(examples);
        filesAreThere(root, readme);
        testsAreNamed(root, readme);
        System.out.println(passed + " passed, " + failed + " failed");
        if (failed != 0) {
            System.exit(1);
        }
    }

    private static void due(String what, boolean is) {
        if (is) {
            passed++;
        } else {
            failed++;
            System.out.println("ReadmeTests: not so: " + what);
        }
    }

    private static List<String> examplesOf(String readme) {
        List<String> examples = new ArrayList<>();
        Matcher found = EXAMPLE.matcher(readme);
        while (found.find()) {
            examples.add(found.group(1));
        }
        return examples;
    }

    /** An example becomes a class of its own, in which each call with a told answer is held against it. */
    private static void run(String name, String example) throws Exception {
        StringBuilder code = new StringBuilder("public final class " + name + " {\n    public static void go() {\n");
        for (String line : example.split("\n")) {
            code.append(checked(line)).append('\n');
        }
        code.append("    }\n}\n");
        Path folder = Files.createTempDirectory("readme");
        try {
            Path file = folder.resolve(name + ".java");
            Files.writeString(file, code);
            JavaCompiler compiler = ToolProvider.getSystemJavaCompiler();
            StringWriter said = new StringWriter();
            boolean compiled = compiler.getTask(said, null, null, List.of("-d", folder.toString(), "-cp", System.getProperty("java.class.path")),
                null, compiler.getStandardFileManager(null, null, null).getJavaFileObjects(file)).call();
            due("example compiles: " + said, compiled);
            if (compiled) {
                try (URLClassLoader loader = new URLClassLoader(new URL[] {folder.toUri().toURL()})) {
                    loader.loadClass(name).getMethod("go").invoke(null);
                }
            }
        } finally {
            delete(folder);
        }
    }

    private static String checked(String line) {
        Matcher call = CALL.matcher(line.trim());
        if (!call.matches()) {
            return line;
        }
        Matcher answer = ANSWER.matcher(call.group(2));
        due("an answer is told behind " + line.trim(), answer.matches());
        if (!answer.matches()) {
            return line;
        }
        String want = answer.group(1).matches("[A-Z]+") ? "FenceWays." + answer.group(1) : answer.group(1);
        return "ReadmeTests.Told.due(\"" + call.group(1) + "\", x." + call.group(1) + ", " + want + ");";
    }

    private static void delete(Path folder) throws IOException {
        List<Path> all;
        try (Stream<Path> walk = Files.walk(folder)) {
            all = walk.sorted(Comparator.reverseOrder()).collect(Collectors.toList());
        }
        for (Path path : all) {
            Files.delete(path);
        }
    }

    private static void everyCallIsShown(List<String> examples) {
        String all = String.join("\n", examples);
        for (String name : FACE.split(" ")) {
            due("an example calls " + name, all.contains("x." + name + "("));
        }
    }

    private static void filesAreThere(Path root, String readme) throws IOException {
        // README.md calls the reader's own program so.
        Set<String> there = new TreeSet<>(Set.of("Mine.java"));
        try (Stream<Path> walk = Files.walk(root.resolve("src"))) {
            walk.forEach(path -> there.add(path.getFileName().toString()));
        }
        Matcher name = Pattern.compile("\\b(\\w+\\.java)\\b").matcher(readme);
        while (name.find()) {
            due("there is " + name.group(1), there.contains(name.group(1)));
        }
        Matcher path = Pattern.compile("(?:\\.\\./shared|src|\\.ci)/[\\w./]*\\w").matcher(readme);
        while (path.find()) {
            due("there is " + path.group(), Files.exists(root.resolve(path.group())));
        }
    }

    private static void testsAreNamed(Path root, String readme) throws IOException {
        try (Stream<Path> files = Files.list(root.resolve("src/test/java"))) {
            files.forEach(file -> due("README.md names " + file.getFileName(), readme.contains(file.getFileName().toString())));
        }
    }
}
