import java.io.File;
import java.io.IOException;
import java.nio.file.Files;
import java.nio.file.Path;
import java.util.ArrayList;
import java.util.List;
import java.util.Map;
import java.util.concurrent.ExecutorService;
import java.util.concurrent.Executors;
import java.util.concurrent.Future;
import java.util.concurrent.TimeUnit;
import java.util.regex.Matcher;
import java.util.regex.Pattern;
import javax.tools.ToolProvider;

/**
 * Run by hand: breaks FenceWays.java in one place after the other and tells which
 * breaks no test sees. Arguments: FenceWays.java, DOC.md, the folder of the
 * compiled tests, the tests to run.
 */
public final class Mutants {
    private static final int SECONDS = 60;
    private static final Pattern TOKEN = Pattern.compile(
        "(?s)/\\*.*?\\*/|//[^\\n]*|'[^']'|\"[^\"]*\"|<=|>=|==|!=|&&|\\|\\||\\+\\+|--|<<|>>>|[-+<>&|!]|\\b\\d+L?\\b|\\b[A-Za-z_]\\w*\\b");
    private static final Pattern STATEMENT = Pattern.compile(
        "(?m)^ ++(?!private|public|int |long |boolean |import|case|default)[^\\n{}]*;$");
    private static final Map<String, String> OTHERS = Map.ofEntries(
        Map.entry("<=", "<"), Map.entry(">=", ">"), Map.entry("<", "<="), Map.entry(">", ">="),
        Map.entry("==", "!="), Map.entry("!=", "=="), Map.entry("&&", "||"), Map.entry("||", "&&"),
        Map.entry("+", "-"), Map.entry("-", "+"), Map.entry("&", "|"), Map.entry("|", "&"), Map.entry("!", ""),
        Map.entry("true", "false"), Map.entry("false", "true"), Map.entry("break", ""),
        Map.entry("NONE", "(-2)"), Map.entry("UNKNOWN", "OUTSIDE"), Map.entry("OUTSIDE", "UNKNOWN"),
        Map.entry("NOT", "OUTSIDE"), Map.entry("FULL", "NOT"));

    private record Mutant(int line, String old, String put, String source) {
    }

    public static void main(String[] args) throws Exception {
        String source = Files.readString(Path.of(args[0]));
        List<Mutant> mutants = new ArrayList<>();
        breakTokens(source, mutants);
        breakStatements(source, mutants);
        ExecutorService pool = Executors.newFixedThreadPool(Runtime.getRuntime().availableProcessors());
        List<Future<String>> ends = new ArrayList<>();
        for (Mutant mutant : mutants) {
            ends.add(pool.submit(() -> endOf(mutant, args)));
        }
        int unseen = 0;
        int noJava = 0;
        for (int i = 0; i < mutants.size(); i++) {
            String end = ends.get(i).get();
            noJava += end.equals("does not compile") ? 1 : 0;
            if (end.equals("unseen")) {
                unseen++;
                Mutant mutant = mutants.get(i);
                System.out.println("line " + mutant.line() + ": '" + mutant.old().trim() + "' -> '" + mutant.put() + "'   "
                    + source.split("\n")[mutant.line() - 1].trim());
            }
        }
        pool.shutdown();
        System.out.println(mutants.size() - noJava + " mutants, " + unseen + " unseen; " + noJava + " more do not compile");
    }

    private static void breakTokens(String source, List<Mutant> mutants) {
        Matcher token = TOKEN.matcher(source);
        while (token.find()) {
            String old = token.group();
            if (old.matches("\\d+L?")) {
                long number = Long.parseLong(old.replace("L", ""));
                String end = old.endsWith("L") ? "L" : "";
                add(source, token.start(), old, number + 1 + end, mutants);
                if (number > 0) {
                    add(source, token.start(), old, number - 1 + end, mutants);
                }
            } else if (old.matches("'.'")) {
                add(source, token.start(), old, "'" + (char) (old.charAt(1) + 1) + "'", mutants);
            } else if (OTHERS.containsKey(old)) {
                add(source, token.start(), old, OTHERS.get(old), mutants);
            }
        }
    }

    private static void breakStatements(String source, List<Mutant> mutants) {
        Matcher statement = STATEMENT.matcher(source);
        while (statement.find()) {
            add(source, statement.start(), statement.group(), ";", mutants);
        }
    }

    private static void add(String source, int at, String old, String put, List<Mutant> mutants) {
        int line = (int) source.substring(0, at).chars().filter(c -> c == '\n').count() + 1;
        mutants.add(new Mutant(line, old, put, source.substring(0, at) + put + source.substring(at + old.length())));
    }

    private static String endOf(Mutant mutant, String[] args) throws IOException, InterruptedException {
        Path folder = Files.createTempDirectory("mutant");
        try {
            Path file = folder.resolve("FenceWays.java");
            Files.writeString(file, mutant.source());
            int compiled = ToolProvider.getSystemJavaCompiler().run(null, OutputNone.NONE, OutputNone.NONE,
                "-nowarn", "-d", folder.toString(), file.toString());
            if (compiled != 0) {
                return "does not compile";
            }
            for (int i = 3; i < args.length; i++) {
                if (!passes(folder, args[i], args)) {
                    return "seen by " + args[i];
                }
            }
            return "unseen";
        } finally {
            for (File file : folder.toFile().listFiles()) {
                file.delete();
            }
            folder.toFile().delete();
        }
    }

    private static boolean passes(Path folder, String test, String[] args) throws IOException, InterruptedException {
        Process process = new ProcessBuilder("java", "-XX:TieredStopAtLevel=1", "-XX:+UseSerialGC",
            "-cp", folder + File.pathSeparator + args[2], test, args[0], args[1])
            .redirectErrorStream(true).redirectOutput(ProcessBuilder.Redirect.DISCARD).start();
        if (!process.waitFor(SECONDS, TimeUnit.SECONDS)) {
            process.destroyForcibly();
            return false;
        }
        return process.exitValue() == 0;
    }

    /** Takes what the compiler says of breaks that are no Java. */
    private static final class OutputNone extends java.io.OutputStream {
        static final OutputNone NONE = new OutputNone();

        @Override
        public void write(int b) {
        }
    }
}
