import java.io.IOException;
import java.io.StringWriter;
import java.net.URL;
import java.net.URLClassLoader;
import java.nio.file.Files;
import java.nio.file.Path;
import java.util.List;
import java.util.Map;
import java.util.TreeMap;
import java.util.regex.Matcher;
import java.util.regex.Pattern;
import javax.tools.JavaCompiler;
import javax.tools.StandardJavaFileManager;
import javax.tools.ToolProvider;

/** What README.md says holds: its examples answer what stands behind them, and it has every call and constant. */
public final class ReadmeTest {
    private static final Checks CHECKS = new Checks();
    private static final Pattern BLOCK = Pattern.compile("(?s)```java\n(.*?)```");
    private static final Pattern CALL = Pattern.compile("public int (\\w+)\\(([^)]*)\\) \\{");
    /** A line of an example: perhaps what the answer is kept as, the call, the answer. */
    private static final Pattern LINE = Pattern.compile("(int (\\w+) = )?(bureau\\.\\w+\\(.*\\));\\s+// (-?\\d+)\\b.*");

    public static void main(String[] args) throws Exception {
        String readme = Files.readString(Path.of("README.md"));
        hasEveryCall(readme, Files.readString(Path.of("src/main/java/CutBureau.java")));
        hasEveryConstant(readme);
        hasEverySetting(readme);
        hasEveryTest(readme);
        examplesAnswerSo(readme);
        CHECKS.end();
    }

    private static void hasEveryCall(String readme, String source) {
        CHECKS.about("README's calls");
        Matcher call = CALL.matcher(source);
        int calls = 0;
        while (call.find()) {
            String text = call.group(1) + "(" + call.group(2).replaceAll("(int|boolean) ", "") + ")";
            CHECKS.due("rows for " + text, readme.split(Pattern.quote("\n| `" + text + "` |"), -1).length - 1, 1);
            calls++;
        }
        CHECKS.due("calls", calls, 32);
    }

    private static void hasEveryConstant(String readme) throws IllegalAccessException, NoSuchFieldException {
        CHECKS.about("README's constants");
        for (String name : new String[] {"UNKNOWN", "OUTSIDE", "STATE", "FULL", "NO"}) {
            int value = CutBureau.class.getField(name).getInt(null);
            CHECKS.dueTrue(name, readme.contains("| `" + name + "` | " + value + " |"));
        }
        CHECKS.dueTrue("NONE", readme.contains("`NONE` (" + CutBureau.NONE + ")"));
    }

    /** The rows of the settings, such as "| 5, 6, 7 | PRICES 0, 1, 2 | 0 to 1000 | 3, 2, 1 |". */
    private static void hasEverySetting(String readme) {
        CHECKS.about("README's settings");
        Matcher row = Pattern.compile("\n\\| ([\\d, ]+) \\| [A-Z][^|]* \\| (\\d+) to (\\d+) \\| ([\\d, ]+) \\|").matcher(readme);
        int settings = 0;
        while (row.find()) {
            String[] which = row.group(1).split(", ");
            String[] first = row.group(4).split(", ");
            CHECKS.due("first values in" + row.group(), first.length, which.length);
            for (int i = 0; i < which.length && i < first.length; i++) {
                CHECKS.due("which", Integer.parseInt(which[i]), settings);
                bounds(settings, Integer.parseInt(row.group(2)), Integer.parseInt(row.group(3)), Integer.parseInt(first[i]));
                settings++;
            }
        }
        CHECKS.due("settings", settings, 9);
    }

    private static void bounds(int which, int least, int greatest, int first) {
        CutBureau x = new CutBureau();
        CHECKS.due("set(" + which + ", " + (least - 1) + ")", x.set(which, least - 1), CutBureau.OUTSIDE);
        CHECKS.due("set(" + which + ", " + (greatest + 1) + ")", x.set(which, greatest + 1), CutBureau.OUTSIDE);
        CHECKS.due("set(" + which + ", " + least + ")", x.set(which, least), first);
        CHECKS.due("set(" + which + ", " + greatest + ")", x.set(which, greatest), least);
        CHECKS.due("told(" + (10 + which) + ")", x.told(10 + which), greatest);
    }

    /** Each test is named, those of the parts and of their edges by what they have in common. */
    private static void hasEveryTest(String readme) throws IOException {
        CHECKS.about("README's tests");
        CHECKS.dueTrue(".ci/run can not be run", Files.isExecutable(Path.of(".ci/run")) && readme.contains("\n    .ci/run\n"));
        try (var files = Files.list(Path.of("src/test/java"))) {
            for (String name : files.map(f -> f.getFileName().toString()).filter(f -> f.endsWith("Test.java")).toList()) {
                String test = name.replace(".java", "");
                boolean ofAPart = Files.exists(Path.of("src/test/java", test.replace("Test", "EdgesTest") + ".java"));
                boolean ofEdges = test.endsWith("EdgesTest") && readme.contains("`..EdgesTest`");
                CHECKS.dueTrue(test + " is not named", ofAPart || ofEdges || readme.contains("`" + test + "`"));
            }
        }
    }

    private static void examplesAnswerSo(String readme) throws Exception {
        CHECKS.about("README's examples");
        StringBuilder code = new StringBuilder("public final class Examples {\n"
                + "    public static void all(java.util.Map<String, Integer> got) {\n");
        Map<String, Integer> due = new TreeMap<>();
        Matcher block = BLOCK.matcher(readme);
        int blocks = 0;
        while (block.find()) {
            blocks++;
            code.append("{\n");
            int number = 0;
            for (String line : block.group(1).split("\n")) {
                number++;
                Matcher told = LINE.matcher(line);
                if (told.matches()) {
                    String key = "example " + blocks + ", line " + number + ": " + told.group(3);
                    due.put(key, Integer.parseInt(told.group(4)));
                    String kept = told.group(2) == null ? "answer" + number : told.group(2);
                    code.append("int " + kept + " = " + told.group(3) + ";\n");
                    code.append("got.put(\"" + key + "\", " + kept + ");\n");
                } else {
                    CHECKS.dueTrue("what is told is not read: " + line, !line.contains("//"));
                    code.append(line).append("\n");
                }
            }
            code.append("}\n");
        }
        CHECKS.dueTrue("there are no examples", blocks > 0 && due.size() > blocks);
        Map<String, Integer> got = new TreeMap<>();
        run(code.append("}\n}\n").toString(), got);
        for (Map.Entry<String, Integer> one : due.entrySet()) {
            CHECKS.due(one.getKey(), got.getOrDefault(one.getKey(), Integer.MIN_VALUE), one.getValue());
        }
    }

    private static void run(String code, Map<String, Integer> got) throws Exception {
        Path folder = Files.createTempDirectory("examples");
        Path file = folder.resolve("Examples.java");
        try {
            Files.writeString(file, code);
            if (compiles(file, folder)) {
                try (URLClassLoader loader = new URLClassLoader(new URL[] {folder.toUri().toURL()})) {
                    loader.loadClass("Examples").getMethod("all", Map.class).invoke(null, got);
                }
            }
        } finally {
            Files.deleteIfExists(folder.resolve("Examples.class"));
            Files.deleteIfExists(file);
            Files.deleteIfExists(folder);
        }
    }

    private static boolean compiles(Path file, Path folder) throws IOException {
        JavaCompiler compiler = ToolProvider.getSystemJavaCompiler();
        StringWriter says = new StringWriter();
        try (StandardJavaFileManager files = compiler.getStandardFileManager(null, null, null)) {
            List<String> options = List.of("-d", folder.toString(), "-cp", System.getProperty("java.class.path"));
            boolean compiled = compiler.getTask(says, files, null, options, null, files.getJavaFileObjects(file)).call();
            CHECKS.dueTrue("the examples do not compile: " + says, compiled);
            return compiled;
        }
    }
}
