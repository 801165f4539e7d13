import java.lang.reflect.Constructor;
import java.lang.reflect.Field;
import java.lang.reflect.InvocationTargetException;
import java.lang.reflect.Method;
import java.lang.reflect.Modifier;
import java.nio.file.DirectoryStream;
import java.nio.file.Files;
import java.nio.file.Path;
import java.util.ArrayList;
import java.util.List;
import java.util.Map;
import java.util.NoSuchElementException;
import java.util.Random;
import java.util.TreeMap;
import java.util.TreeSet;
import java.util.regex.Matcher;
import java.util.regex.Pattern;

/** The public face, as the document writes it; some rules of LANGUAGE.md; no call throws but as promised. */
public final class FaceTest {
    private static final Due DUE = new Due();
    private static final int[] ODD = {Integer.MIN_VALUE, -100, -2, -1, 0, 1, 2, 3, 5, 6, 8, 9, 10, 40, 60, 72, 99, Integer.MAX_VALUE};
    private static final Path DOCUMENT = Path.of("../shared/DOC.md");
    private static final Path TESTS = Path.of("src/test/java");
    private static final Path SOURCE = Path.of("src/main/java/PurringHolds.java");

    public static void main(String[] args) throws Exception {
        face();
        faceIsWrittenAsInTheDocument();
        partsAreAsTheDocumentSays();
        language();
        objectsAreMadeOnce();
        callsGoAtMostEightDeep();
        methodsAreShort();
        eachPromiseHasTestsOfItsBounds();
        anyCalls();
        DUE.close();
    }

    private static void face() throws Exception {
        TreeSet<String> due = new TreeSet<>();
        Matcher m = Pattern.compile("public (int|long|boolean) (\\w+)\\(([^)]*)\\)").matcher(Files.readString(DOCUMENT));
        while (m.find()) {
            due.add(m.group(1) + " " + m.group(2) + " " + m.group(3).replaceAll(" \\w+(, )?", ""));
        }
        TreeSet<String> has = new TreeSet<>();
        for (Method method : PurringHolds.class.getDeclaredMethods()) {
            if (!Modifier.isPrivate(method.getModifiers()) && !method.isSynthetic()) {
                DUE.yes(method + " is public", Modifier.isPublic(method.getModifiers()));
                StringBuilder b = new StringBuilder(method.getReturnType() + " " + method.getName() + " ");
                for (Class<?> type : method.getParameterTypes()) {
                    b.append(type);
                }
                has.add(b.toString());
            }
        }
        DUE.is("methods of the document", due.size(), 50);
        DUE.yes("the methods are " + has + ", due are " + due, has.equals(due));
        for (Field field : PurringHolds.class.getDeclaredFields()) {
            DUE.is(field + " is private", Modifier.isPrivate(field.getModifiers()) ? 1 : 0, field.getName().equals("NONE") ? 0 : 1);
        }
        Constructor<?>[] constructors = PurringHolds.class.getDeclaredConstructors();
        DUE.is("constructors", constructors.length, 1);
        DUE.is("it takes nothing", constructors[0].getParameterCount(), 0);
        DUE.yes("the class is final", Modifier.isFinal(PurringHolds.class.getModifiers()));
        noPrivateMethodBearsAPublicName();
    }

    /** Word for word, so that parameters' names and what is thrown are the document's, too. */
    private static void faceIsWrittenAsInTheDocument() throws Exception {
        List<String> source = Files.readAllLines(SOURCE);
        Matcher face = Pattern.compile("(?ms)^## The public face\n.*?^```java\n(.*?)^```$").matcher(Files.readString(DOCUMENT));
        DUE.yes("the document has a face", face.find());
        List<String> due = new ArrayList<>();
        for (String line : face.group(1).split("\n")) {
            if (!line.isBlank() && !line.equals("}")) {
                due.add(line.matches(".*\\).*;") ? line.replace(";", " {") : line);
            }
        }
        DUE.is("lines of the face", due.size(), 54);
        List<String> has = new ArrayList<>();
        for (String line : source) {
            if (line.startsWith("import ") || line.startsWith("public ") || line.startsWith("    public ")) {
                has.add(line);
            }
        }
        for (int i = 0; i < due.size() || i < has.size(); i++) {
            String one = i < has.size() ? has.get(i) : "";
            String other = i < due.size() ? due.get(i) : "";
            DUE.yes("the face has '" + one + "', due is '" + other + "'", one.equals(other));
        }
        DUE.is("NONE", PurringHolds.NONE, -1);
    }

    private static void partsAreAsTheDocumentSays() throws Exception {
        List<String> due = new ArrayList<>();
        Matcher parts = Pattern.compile("(?m)^Ahead of the calls (.*) the interface says: (---- .*)\\.$").matcher(Files.readString(DOCUMENT));
        while (parts.find()) {
            due.add(parts.group(2));
            due.addAll(List.of(parts.group(1).replace("`", "").split(", ")));
        }
        DUE.is("parts and calls", due.size(), 60);
        List<String> has = new ArrayList<>();
        Matcher lines = Pattern.compile("(?m)^    (?:// (---- .*)|public \\w+ (\\w+)\\(.*)$").matcher(Files.readString(SOURCE));
        while (lines.find()) {
            has.add(lines.group(1) != null ? lines.group(1) : lines.group(2));
        }
        DUE.yes("the parts are " + has + ", due are " + due, has.equals(due));
    }

    private static void noPrivateMethodBearsAPublicName() {
        TreeSet<String> names = new TreeSet<>();
        for (Method method : PurringHolds.class.getMethods()) {
            if (method.getDeclaringClass() == PurringHolds.class) {
                names.add(method.getName());
            }
        }
        for (Method method : PurringHolds.class.getDeclaredMethods()) {
            if (Modifier.isPrivate(method.getModifiers())) {
                DUE.no("private " + method.getName(), names.contains(method.getName()));
            }
        }
        for (Class<?> inside : PurringHolds.class.getDeclaredClasses()) {
            DUE.yes(inside + " is static", Modifier.isStatic(inside.getModifiers()));
            for (Method method : inside.getDeclaredMethods()) {
                DUE.no(inside + " " + method.getName(), names.contains(method.getName()));
            }
        }
    }

    private static void language() throws Exception {
        String source = Files.readString(SOURCE);
        String code = source.replaceAll("/\\*\\*?[^*]*\\*/", "").replaceAll("//[^\n]*", "");
        for (String word : List.of("->", "::", "\\btry\\b", "\\bcatch\\b", "\\bfinally\\b", "\\bassert\\b", "\\bsynchronized\\b",
            "\\bMath\\.\\w*Exact\\b", "\\bpackage\\b", "\"", "\\binstanceof\\b", "\\bwhile\\b", "\\bdouble\\b", "\\bfloat\\b")) {
            DUE.no("the source has " + word, Pattern.compile(word).matcher(code).find());
        }
        Matcher imports = Pattern.compile("import ([^;]*);").matcher(code);
        while (imports.find()) {
            DUE.yes(imports.group(1), imports.group(1).equals("java.util.NoSuchElementException"));
        }
        Matcher statics = Pattern.compile("static (?!final)\\w+(\\[\\])? \\w+( =|;)").matcher(code);
        DUE.no("a static field that is not final", statics.find());
    }

    /** All calls of a run live in one room: but for what is thrown, a call makes nothing that is not kept and used again. */
    private static void objectsAreMadeOnce() throws Exception {
        for (String line : Files.readAllLines(SOURCE)) {
            if (line.matches("[^*/]*\\bnew .*")) {
                boolean field = line.matches(" +(private )?(final )?\\w+ \\w+ = new \\w+\\([A-Z_]*\\);");
                boolean array = line.matches(" +(private )?final \\w+\\[\\] \\w+ = new \\w+\\[[A-Z_]+( \\+ 1)?\\];");
                boolean once = line.matches(" +(ring\\[next\\]|kept\\[i\\]) = new Viaduct\\(\\);");
                DUE.yes("made:" + line, field || array || once || line.matches(" +throw new NoSuchElementException\\(\\);"));
            }
            DUE.no("copied:" + line, line.matches(".*(\\.clone\\(|Arrays\\.copyOf).*"));
        }
    }

    /** By the names of what is called: the library's own functions count as one more. */
    private static void callsGoAtMostEightDeep() throws Exception {
        Map<String, String> bodies = new TreeMap<>();
        String name = "";
        String end = "";
        for (String line : Files.readAllLines(SOURCE)) {
            Matcher method = Pattern.compile("( {4}| {8})(?:\\w+(?:\\[\\])? )+(\\w+)\\([^;]*\\)[^;=]* \\{").matcher(line);
            if (method.matches()) {
                name = method.group(2);
                end = method.group(1) + "}";
                bodies.merge(name, "", String::concat);
            } else if (line.equals(end)) {
                name = "";
            } else if (!name.isEmpty()) {
                bodies.merge(name, line.replaceAll("//.*", "") + "\n", String::concat);
            }
        }
        DUE.yes("methods are found", bodies.size() > 100);
        for (String each : bodies.keySet()) {
            DUE.yes("calls from " + each + " on go deeper than eight", depthOf(each, bodies, 0) <= 8);
        }
        DUE.is("the deepest", depthOf("law", bodies, 0), 8);
    }

    private static int depthOf(String name, Map<String, String> bodies, int above) {
        if (above > 20 || !bodies.containsKey(name)) {
            return 1;
        }
        int deepest = 0;
        Matcher calls = Pattern.compile("(\\w+)\\(").matcher(bodies.get(name));
        while (calls.find()) {
            if (!List.of("if", "for", "switch", "return").contains(calls.group(1))) {
                deepest = Math.max(deepest, depthOf(calls.group(1), bodies, above + 1));
            }
        }
        return 1 + deepest;
    }

    private static void methodsAreShort() throws Exception {
        int began = 0;
        int lines = 0;
        int methods = 0;
        String end = "";
        for (String line : Files.readAllLines(SOURCE)) {
            lines++;
            Matcher method = Pattern.compile("( {4}| {8})\\w[^;=]*\\([^;]*\\)[^;=]* \\{").matcher(line);
            if (end.isEmpty() && method.matches()) {
                began = lines;
                methods++;
                end = method.group(1) + "}";
                DUE.yes("parameters at line " + lines, line.split(",").length <= 7);
            } else if (line.equals(end)) {
                DUE.yes("the method at line " + began + " is short", lines - began <= 60);
                end = "";
            }
        }
        DUE.yes("methods are found", methods > 100);
    }

    private static void eachPromiseHasTestsOfItsBounds() throws Exception {
        TreeSet<String> due = new TreeSet<>(List.of("terms1", "terms2"));
        Matcher promises = Pattern.compile("(?m)^## Promise (\\d+):").matcher(Files.readString(DOCUMENT));
        while (promises.find()) {
            due.add("promise" + promises.group(1));
        }
        DUE.is("promises and terms", due.size(), 53);
        TreeSet<String> has = new TreeSet<>();
        try (DirectoryStream<Path> files = Files.newDirectoryStream(TESTS, "Edges*Test.java")) {
            for (Path file : files) {
                Matcher tests = Pattern.compile("static void ((promise|terms)\\d+)[A-Z]").matcher(Files.readString(file));
                while (tests.find()) {
                    has.add(tests.group(1));
                }
            }
        }
        DUE.yes("tests of bounds are of " + has + ", due are " + due, has.equals(due));
    }

    private static void anyCalls() throws Exception {
        List<Method> methods = new ArrayList<>();
        for (Method method : PurringHolds.class.getMethods()) {
            if (method.getDeclaringClass() == PurringHolds.class) {
                methods.add(method);
            }
        }
        methods.sort(java.util.Comparator.comparing(Method::getName));
        Random random = new Random(7);
        String signs = ";0123456789jbgklsn+-*/<>=()fp";
        for (int run = 0; run < 300; run++) {
            PurringHolds x = run % 3 == 0 ? new PurringHolds() : Due.viaduct("9;5;4;3;2;1", "910;821;732;643;554;465;370;281", "j-g+s");
            for (int i = 0; i < 500; i++) {
                Method method = methods.get(random.nextInt(methods.size()));
                Object[] given = new Object[method.getParameterCount()];
                for (int k = 0; k < given.length; k++) {
                    given[k] = random.nextInt(9) == 0 ? random.nextInt() : ODD[random.nextInt(ODD.length)];
                }
                if (method.getName().equals("sign") && random.nextInt(4) > 0) {
                    given[0] = 0;
                    for (int k = 0; k < 4; k++) {
                        given[0] = (Integer) given[0] << 8 | signs.charAt(random.nextInt(signs.length()));
                    }
                }
                callsWell(x, method, given);
            }
        }
    }

    private static void callsWell(PurringHolds x, Method method, Object[] given) throws Exception {
        try {
            method.invoke(x, given);
        } catch (InvocationTargetException e) {
            boolean may = List.of(method.getExceptionTypes()).contains(NoSuchElementException.class);
            DUE.yes(method + " threw " + e.getCause(), may && e.getCause().getClass() == NoSuchElementException.class);
        }
    }
}
