import java.io.IOException;
import java.net.URL;
import java.net.URLClassLoader;
import java.nio.file.Files;
import java.nio.file.Path;
import java.util.List;
import java.util.function.ObjIntConsumer;
import java.util.regex.Matcher;
import java.util.regex.Pattern;
import java.util.stream.Stream;
import javax.tools.ToolProvider;

/** README.md holds for the class as it stands. */
public final class ReadmeTest {
    private static final Due DUE = new Due("readme");
    private static final Pattern ANSWERED = Pattern.compile("(core\\.\\w+\\(.*?\\)); +// (-?\\d+|SmtCore\\.\\w+)\\b.*");

    public static void main(String[] args) throws IOException, ReflectiveOperationException {
        String readme = Files.readString(Path.of("README.md"));
        exampleAnswersWhatItSays(readme);
        namesTheFace(readme);
        namesTheOperations(readme);
        namesTheTests(readme);
        pathsAreThere(readme);
        DUE.end();
    }

    private static void exampleAnswersWhatItSays(String readme) throws IOException, ReflectiveOperationException {
        Matcher block = Pattern.compile("(?s)```java\n(.*?)```").matcher(readme);
        DUE.same("an example in README.md", block.find() ? 1 : 0, 1);
        List<String> lines = block.group(1).lines().toList();
        long answered = lines.stream().filter(line -> ANSWERED.matcher(line).matches()).count();
        DUE.same("lines of the example without an answer, the constructor's apart", lines.size() - answered, 1);
        Path folder = Files.createTempDirectory("readme");
        try {
            runExample(folder, lines);
        } finally {
            remove(folder);
        }
    }

    /** Compiled as it stands, but for handing each answer, and the one that is due, to 'due'. */
    private static void runExample(Path folder, List<String> lines) throws IOException, ReflectiveOperationException {
        StringBuilder body = new StringBuilder();
        for (int i = 0; i < lines.size(); i++) {
            String handed = "due.accept(new int[] {$1, $2}, " + (i + 1) + ");";
            body.append(ANSWERED.matcher(lines.get(i)).replaceFirst(handed)).append('\n');
        }
        Path file = folder.resolve("Example.java");
        Files.writeString(file, "public final class Example {\n"
            + "public static void run(java.util.function.ObjIntConsumer<int[]> due) {\n" + body + "}\n}\n");
        int failed = ToolProvider.getSystemJavaCompiler().run(null, null, null, "-cp",
            System.getProperty("java.class.path"), "-d", folder.toString(), file.toString());
        DUE.same("compiling the example", failed, 0);
        if (failed == 0) {
            ObjIntConsumer<int[]> due = (pair, line) -> DUE.same("line " + line + " of the example", pair[0], pair[1]);
            try (URLClassLoader loader = new URLClassLoader(new URL[] {folder.toUri().toURL()})) {
                loader.loadClass("Example").getMethod("run", ObjIntConsumer.class).invoke(null, due);
            }
        }
    }

    private static void remove(Path folder) throws IOException {
        try (Stream<Path> files = Files.list(folder)) {
            for (Path file : files.toList()) {
                Files.delete(file);
            }
        }
        Files.delete(folder);
    }

    private static void namesTheFace(String readme) throws IOException {
        Source source = Source.read();
        for (String declared : source.all("public int (\\w+\\(.*?\\)) \\{", 1)) {
            String call = "| `" + declared.replaceAll("\\bint ", "") + "` |";
            DUE.same("a row for " + call, readme.contains(call) ? 1 : 0, 1);
        }
        for (String constant : source.all("public static final int (\\w+ = -?\\d+);", 1)) {
            String named = "`" + constant.replace(" =", "`");
            boolean there = Pattern.compile(Pattern.quote(named) + "(?!\\d)").matcher(readme).find();
            DUE.same("the constant " + named, there ? 1 : 0, 1);
        }
    }

    private static void namesTheOperations(String readme) throws IOException {
        String document = Files.readString(Path.of("../shared/DOC.md"));
        Matcher row = Pattern.compile("(?m)^ +(\\d+ [A-Z]+) ").matcher(document);
        int rows = 0;
        while (row.find()) {
            rows++;
            boolean there = Pattern.compile("(?<!\\d)" + row.group(1) + "\\b").matcher(readme).find();
            DUE.same("the operation " + row.group(1), there ? 1 : 0, 1);
        }
        DUE.same("operations of the document", rows, 16);
    }

    private static void namesTheTests(String readme) throws IOException {
        try (Stream<Path> files = Files.list(Path.of("src/test/java"))) {
            for (String file : files.map(path -> path.getFileName().toString()).sorted().toList()) {
                if (file.endsWith("Test.java")) {
                    String name = "`" + file.replace(".java", "`");
                    DUE.same("the test " + name, readme.contains(name) ? 1 : 0, 1);
                }
            }
        }
        Matcher named = Pattern.compile("`(\\w+Test)`").matcher(readme);
        while (named.find()) {
            Path file = Path.of("src/test/java", named.group(1) + ".java");
            DUE.same("the file of the test " + named.group(1), Files.exists(file) ? 1 : 0, 1);
        }
    }

    private static void pathsAreThere(String readme) {
        Matcher named = Pattern.compile("`((?:src|\\.\\.|\\.ci)/[\\w./]+)`").matcher(readme);
        while (named.find()) {
            DUE.same("the path " + named.group(1), Files.exists(Path.of(named.group(1))) ? 1 : 0, 1);
        }
    }
}
