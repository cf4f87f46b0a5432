import java.io.IOException;
import java.lang.reflect.Field;
import java.lang.reflect.Method;
import java.lang.reflect.Modifier;
import java.nio.file.Files;
import java.nio.file.Path;
import java.util.Set;
import java.util.TreeSet;
import java.util.regex.Matcher;
import java.util.regex.Pattern;

/**
 * Those rules of LANGUAGE.md that a program can look at. The arguments are the paths of
 * FenceWays.java and of DOC.md.
 */
public final class LanguageTests {
    private static final String[] FORBIDDEN = {
        "\\bthrow\\b", "\\bthrows\\b", "\\btry\\b", "\\bcatch\\b", "\\bfinally\\b", "\\bsynchronized\\b", "\\bassert\\b",
        "->", "::", "\\bstatic\\s*\\{", "\\bpackage\\b", "\\bprotected\\b", "Exact\\(", "\\bObject\\b", "\\bSystem\\.(?!arraycopy)",
        "\\bwhile\\s*\\(\\s*true\\s*\\)", "\\bfor\\s*\\(\\s*;\\s*;", "\\.hashCode\\(", "\\.toString\\(", "[^\\x00-\\x7f]"};
    private static final String FACE =
        "feed threads fault told step pair reading can fence cost overtaking best drift undo write tear seed keep goBack";

    private static int passed = 0;
    private static int failed = 0;

    public static void main(String[] args) throws IOException {
        String source = Files.readString(Path.of(args[0]));
        String code = source.replaceAll("(?s)/\\*.*?\\*/", "").replaceAll("//[^\\n]*", "");
        for (String word : FORBIDDEN) {
            due("no " + word, !Pattern.compile(word).matcher(code).find());
        }
        imports(code);
        face();
        faceOfTheDocument(Files.readString(Path.of(args[1])));
        for (Class<?> inside : FenceWays.class.getDeclaredClasses()) {
            classInside(inside);
        }
        due("at most twelve classes", FenceWays.class.getDeclaredClasses().length + 1 <= 12);
        lengths(code);
        System.out.println(passed + " passed, " + failed + " failed");
        if (failed != 0) {
            System.exit(1);
        }
    }

    private static void due(String what, boolean is) {
        if (is) {
            passed++;
        } else {
            failed++;
            System.out.println("LanguageTests: not so: " + what);
        }
    }

    private static void imports(String code) {
        Matcher found = Pattern.compile("import ([^;]*);").matcher(code);
        while (found.find()) {
            due(found.group(), Set.of("java.util.Arrays", "java.util.ArrayList", "java.util.List").contains(found.group(1)));
        }
    }

    private static void face() {
        Set<String> names = new TreeSet<>(Set.of(FACE.split(" ")));
        for (Method method : FenceWays.class.getDeclaredMethods()) {
            boolean isPublic = Modifier.isPublic(method.getModifiers());
            due("public and of the face, or private: " + method.getName(),
                isPublic ? names.remove(method.getName()) && method.getReturnType() == int.class
                    : Modifier.isPrivate(method.getModifiers()) && !FACE.matches(".*\\b" + method.getName() + "\\b.*"));
        }
        due("all of the face is there, but for " + names, names.isEmpty());
        for (Field field : FenceWays.class.getDeclaredFields()) {
            boolean ofTheFace = Set.of("NONE", "UNKNOWN", "OUTSIDE", "NOT", "FULL").contains(field.getName());
            due("field " + field.getName(), Modifier.isPublic(field.getModifiers()) == ofTheFace
                && (ofTheFace || Modifier.isPrivate(field.getModifiers())));
        }
        fieldsAtMost(FenceWays.class);
        due("final", Modifier.isFinal(FenceWays.class.getModifiers()));
        due("one constructor", FenceWays.class.getConstructors().length == 1);
    }

    /** Each line of the document's public face is there, with its parameters or its values. */
    private static void faceOfTheDocument(String document) {
        Set<String> there = new TreeSet<>();
        for (Method method : FenceWays.class.getMethods()) {
            StringBuilder head = new StringBuilder(method.getReturnType() + " " + method.getName() + ":");
            for (Class<?> type : method.getParameterTypes()) {
                head.append(' ').append(type);
            }
            there.add(head.toString());
        }
        int lines = 0;
        Matcher method = Pattern.compile("(?m)^ {4}public (int \\w+)\\((.*)\\);$").matcher(document);
        while (method.find()) {
            lines++;
            String types = method.group(2).replaceAll("(\\w+) \\w+(, )?", " $1");
            due("as the document has it: " + method.group(), there.contains(method.group(1) + ":" + types));
        }
        due("the document tells all of the face", lines == FACE.split(" ").length);
    }

    private static void classInside(Class<?> inside) {
        due("static: " + inside.getName(), Modifier.isStatic(inside.getModifiers()));
        due("private: " + inside.getName(), Modifier.isPrivate(inside.getModifiers()));
        for (Method method : inside.getDeclaredMethods()) {
            due("not a name of the face: " + method.getName(), !FACE.matches(".*\\b" + method.getName() + "\\b.*"));
            due("at most seven parameters: " + method.getName(), method.getParameterCount() <= 7);
        }
        fieldsAtMost(inside);
        for (Field field : inside.getDeclaredFields()) {
            boolean constant = !Modifier.isStatic(field.getModifiers()) || Modifier.isFinal(field.getModifiers());
            due("no static state: " + field.getName(), constant);
        }
    }

    private static void fieldsAtMost(Class<?> of) {
        int fields = 0;
        for (Field field : of.getDeclaredFields()) {
            fields += Modifier.isStatic(field.getModifiers()) ? 0 : 1;
        }
        due("at most twenty fields: " + of.getName(), fields <= 20);
    }

    /** A method's lines: from its head to the brace that closes at the same depth. */
    private static void lengths(String code) {
        String[] lines = code.split("\n");
        for (int i = 0; i < lines.length; i++) {
            Matcher head = Pattern.compile("^( {4}| {8})(?=\\S).*\\) \\{$").matcher(lines[i]);
            if (!head.find()) {
                continue;
            }
            int end = i;
            while (end < lines.length && !lines[end].equals(head.group(1) + "}")) {
                end++;
            }
            due("at most sixty lines: " + lines[i].trim(), end - i < 60);
        }
    }
}
