import java.io.IOException;
import java.lang.reflect.Method;
import java.lang.reflect.Modifier;
import java.net.URL;
import java.net.URLClassLoader;
import java.nio.charset.StandardCharsets;
import java.nio.file.Files;
import java.nio.file.Path;
import java.nio.file.Paths;
import java.util.Set;
import java.util.TreeMap;
import java.util.TreeSet;
import java.util.regex.Matcher;
import java.util.regex.Pattern;
import javax.tools.ToolProvider;

/**
 * README.md tells the truth: the answers of its example and the faults of its texts are the class's own,
 * and its table of calls is the document's.
 */
public final class ReadmeExample {
    private static final Pattern CODES = Pattern.compile("\\b(NONE|BAD_INDEX|BAD_VALUE|BAD_STATE|FULL)\\b");

    private static int wrong = 0;
    private static int answers = 0;

    public static void main(String[] args) throws IOException, ReflectiveOperationException {
        Path root = Paths.get(args.length > 0 ? args[0] : ".");
        String readme = read(root.resolve("README.md"));
        example(readme);
        must(answers >= 20, "the example has answers: " + answers);
        table(readme, read(root.resolve("../shared/DOC.md")));
        faults(readme);
        System.out.println(wrong == 0 ? "README.md is true, with " + answers + " answers" : wrong + " are not true");
        if (wrong != 0) {
            System.exit(1);
        }
    }

    private static String read(Path file) throws IOException {
        return new String(Files.readAllBytes(file), StandardCharsets.UTF_8);
    }

    private static void must(boolean holds, String what) {
        if (!holds) {
            wrong++;
            System.out.println("not true: " + what);
        }
    }

    /** The compiled example calls this behind each line that tells an answer. */
    public static void due(String line, Object got, String want) {
        answers++;
        must(String.valueOf(got).equals(want), line + ", but it answered " + got);
    }

    // ---- the example

    private static void example(String readme) throws IOException, ReflectiveOperationException {
        Matcher block = Pattern.compile("(?s)```java\n(.*?)```").matcher(readme);
        must(block.find(), "there is an example");
        StringBuilder code = new StringBuilder("public final class Example { public static void run() {\n");
        Pattern told = Pattern.compile("^\\w+ (\\w+) = .*; *// (-?\\d+|\"[^\"]*\")(:.*)?$");
        for (String line : block.group(1).split("\n")) {
            Matcher answer = told.matcher(line);
            boolean tells = answer.find();
            must(tells || !line.contains("//"), "a line with a remark tells its answer first: " + line);
            code.append(line).append('\n');
            if (tells) {
                String want = answer.group(2).replace("\"", "");
                String call = line.replace("\\", "\\\\").replace("\"", "\\\"");
                code.append("ReadmeExample.due(\"").append(call).append("\", ").append(answer.group(1));
                code.append(", \"").append(want).append("\");\n");
            }
        }
        runCode(code.append("} }\n").toString());
    }

    private static void runCode(String code) throws IOException, ReflectiveOperationException {
        Path dir = Files.createTempDirectory("readme");
        Path source = dir.resolve("Example.java");
        Files.write(source, code.getBytes(StandardCharsets.UTF_8));
        int result = ToolProvider.getSystemJavaCompiler().run(null, null, null, "-cp",
            System.getProperty("java.class.path"), "-d", dir.toString(), source.toString());
        must(result == 0, "the example compiles");
        if (result == 0) {
            try (URLClassLoader loader = new URLClassLoader(new URL[] {dir.toUri().toURL()})) {
                loader.loadClass("Example").getMethod("run").invoke(null);
            }
        }
        Files.deleteIfExists(dir.resolve("Example.class"));
        Files.delete(source);
        Files.delete(dir);
    }

    // ---- the table

    private static void table(String readme, String document) {
        Set<String> rows = new TreeSet<>();
        TreeMap<String, String> promises = promisesOf(document);
        Matcher row = Pattern.compile("(?m)^\\| `(\\w+)\\((.*?)\\)` \\|(.*)\\|$").matcher(readme);
        while (row.find()) {
            String name = row.group(1);
            String[] cells = row.group(3).split("\\|");
            must(cells.length == 4 && rows.add(name), name + " has one row with five cells");
            must(promises.containsKey(name), name + " is a promise");
            if (cells.length != 4 || !promises.containsKey(name)) {
                continue;
            }
            String promise = promises.get(name);
            must(promise.contains(name + "(" + row.group(2).replaceAll("(\\w+)(,|$)", "int $1$2") + ")"),
                name + " takes (" + row.group(2) + ")");
            // What is answered stands in the last paragraph that begins so.
            String returns = promise.substring(Math.max(promise.lastIndexOf("\nReturns"), 0));
            must(codesIn(cells[2]).equals(codesIn(returns)), name + " answers" + cells[2]);
            must(cells[3].trim().equals(promise.contains("Recorded") ? "yes" : "no"), name + " is recorded:" + cells[3]);
        }
        Set<String> face = new TreeSet<>();
        for (Method method : ConnectorRouter.class.getDeclaredMethods()) {
            if (Modifier.isPublic(method.getModifiers())) {
                face.add(method.getName());
            }
        }
        must(rows.equals(face), "each call has a row: " + rows);
    }

    // ---- the faults of texts

    private static void faults(String readme) {
        Matcher row = Pattern.compile("(?m)^\\| `([^`|]*)` \\| (NONE|\\d+) \\|$").matcher(readme);
        int rows = 0;
        while (row.find()) {
            rows++;
            ConnectorRouter router = new ConnectorRouter();
            for (char sign : row.group(1).toCharArray()) {
                router.type(sign);
            }
            int want = row.group(2).equals("NONE") ? ConnectorRouter.NONE : Integer.parseInt(row.group(2));
            int got = router.textFault();
            must(got == want, row.group() + ", but it answered " + got);
        }
        must(rows >= 6, "the faults of texts are told: " + rows);
    }

    private static Set<String> codesIn(String text) {
        Set<String> found = new TreeSet<>();
        Matcher code = CODES.matcher(text);
        while (code.find()) {
            found.add(code.group());
        }
        return found;
    }

    /** What the document says of each method, by its name. */
    private static TreeMap<String, String> promisesOf(String document) {
        TreeMap<String, String> promises = new TreeMap<>();
        for (String part : document.split("\n## ")) {
            Matcher head = Pattern.compile("^Promise \\d+: (\\w+)\n").matcher(part);
            if (head.find()) {
                promises.put(head.group(1), part);
            }
        }
        return promises;
    }
}
