import java.io.StringWriter;
import java.lang.reflect.Method;
import java.lang.reflect.Modifier;
import java.net.URL;
import java.net.URLClassLoader;
import java.nio.file.DirectoryStream;
import java.nio.file.Files;
import java.nio.file.Path;
import java.util.ArrayList;
import java.util.List;
import java.util.TreeSet;
import java.util.regex.Matcher;
import java.util.regex.Pattern;
import java.util.stream.Stream;
import javax.tools.JavaCompiler;
import javax.tools.JavaFileObject;
import javax.tools.StandardJavaFileManager;
import javax.tools.ToolProvider;

/**
 * README.md: all its Java is taken from the page itself, compiled and done, and each answer that stands behind a call is
 * compared with what the class answers. A line that tells no answer fails, so that none is shown and not done.
 */
public final class ReadmeTest {
    private static final Due DUE = new Due();
    private static final Path PAGE = Path.of("README.md");
    private static final Path TESTS = Path.of("src/test/java");
    private static final Pattern BLOCK = Pattern.compile("(?ms)^```java\n(.*?)^```$");
    private static final Pattern MADE = Pattern.compile("PurringHolds \\w+ = new PurringHolds\\(\\);");
    private static final Pattern TOLD = Pattern.compile("tell\\(\\w+, \"[^\"]*\"\\);");
    private static final Pattern CALL = Pattern.compile("(\\w+\\.(\\w+)\\([^;]*\\)); +// (-?\\d+|true|false|throws NoSuchElementException)(: .*)?");

    private final StringBuilder members = new StringBuilder();
    private final StringBuilder statements = new StringBuilder();
    private final List<String> calls = new ArrayList<>();
    private final List<String> due = new ArrayList<>();
    private final TreeSet<String> shown = new TreeSet<>();

    public static void main(String[] args) throws Exception {
        String page = Files.readString(PAGE);
        new ReadmeTest().does(page);
        namesEachCall(page);
        namesEachTest(page);
        DUE.close();
    }

    private void does(String page) throws Exception {
        Matcher blocks = BLOCK.matcher(page);
        while (blocks.find()) {
            reads(blocks.group(1));
        }
        DUE.is("fences on the page", page.lines().filter(line -> line.startsWith("```")).count(), page.lines().filter(
            line -> line.matches("```(java|sh)")).count() * 2);
        List<String> answers = answers();
        DUE.is("answers", answers.size(), due.size());
        for (int i = 0; i < due.size() && i < answers.size(); i++) {
            DUE.yes("README.md: " + calls.get(i) + " answers " + answers.get(i) + ", not " + due.get(i),
                answers.get(i).equals(due.get(i)));
        }
        for (String name : List.of("sign", "end", "arches", "cats", "rule", "night", "bears", "law", "arch", "cat", "row")) {
            DUE.yes("README.md shows " + name, shown.contains(name));
        }
        for (String answer : List.of("-1", "-2", "-3", "-100", "false", "throws NoSuchElementException")) {
            DUE.yes("README.md shows the answer " + answer, due.contains(answer));
        }
    }

    private void reads(String block) {
        if (block.contains("static ")) {
            members.append(block);
            return;
        }
        for (String line : block.split("\n")) {
            Matcher call = CALL.matcher(line);
            if (call.matches()) {
                calls.add(call.group(1));
                due.add(call.group(3));
                shown.add(call.group(2));
                statements.append("try { answers.add(String.valueOf(").append(call.group(1)).append(")); }\n");
                statements.append("catch (java.util.NoSuchElementException e) { answers.add(\"throws NoSuchElementException\"); }\n");
            } else {
                boolean known = line.isBlank() || MADE.matcher(line).matches() || TOLD.matcher(line).matches();
                DUE.yes("README.md: " + line + " tells what it answers", known);
                statements.append(known ? line : "").append("\n");
            }
        }
    }

    private List<String> answers() throws Exception {
        Path dir = Files.createTempDirectory("readme");
        try {
            Path file = dir.resolve("ReadmeCalls.java");
            Files.writeString(file, "public final class ReadmeCalls {\n" + members
                + "public static java.util.List<String> answers() {\n"
                + "java.util.List<String> answers = new java.util.ArrayList<>();\n" + statements + "return answers;\n}\n}\n");
            if (!compiles(file, dir)) {
                return List.of();
            }
            try (URLClassLoader loader = new URLClassLoader(new URL[] {dir.toUri().toURL()}, ReadmeTest.class.getClassLoader())) {
                List<String> answers = new ArrayList<>();
                for (Object answer : (List<?>) loader.loadClass("ReadmeCalls").getMethod("answers").invoke(null)) {
                    answers.add((String) answer);
                }
                return answers;
            }
        } finally {
            try (Stream<Path> files = Files.list(dir)) {
                for (Path file : files.toList()) {
                    Files.delete(file);
                }
            }
            Files.delete(dir);
        }
    }

    private static boolean compiles(Path file, Path dir) throws Exception {
        JavaCompiler javac = ToolProvider.getSystemJavaCompiler();
        StringWriter words = new StringWriter();
        try (StandardJavaFileManager manager = javac.getStandardFileManager(null, null, null)) {
            Iterable<? extends JavaFileObject> files = manager.getJavaFileObjects(file);
            List<String> options = List.of("-cp", System.getProperty("java.class.path"), "-d", dir.toString());
            boolean good = javac.getTask(words, manager, null, options, null, files).call();
            DUE.yes("README.md compiles: " + words, good);
            return good;
        }
    }

    private static void namesEachCall(String page) {
        for (Method method : PurringHolds.class.getDeclaredMethods()) {
            if (Modifier.isPublic(method.getModifiers())) {
                DUE.yes("README.md names " + method.getName(), Pattern.compile("`" + method.getName() + "[`(]").matcher(page).find());
            }
        }
    }

    private static void namesEachTest(String page) throws Exception {
        try (DirectoryStream<Path> files = Files.newDirectoryStream(TESTS, "*Test.java")) {
            for (Path file : files) {
                String name = file.getFileName().toString().replace(".java", "");
                DUE.yes("README.md names " + name, page.contains("`" + name + "`"));
            }
        }
    }
}
