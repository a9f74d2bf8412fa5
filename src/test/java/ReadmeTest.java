import java.io.IOException;
import java.io.StringWriter;
import java.io.UncheckedIOException;
import java.lang.reflect.Method;
import java.net.URI;
import java.net.URL;
import java.net.URLClassLoader;
import java.nio.charset.StandardCharsets;
import java.nio.file.Files;
import java.nio.file.Path;
import java.util.ArrayList;
import java.util.Comparator;
import java.util.List;
import java.util.TreeSet;
import java.util.regex.MatchResult;
import java.util.regex.Matcher;
import java.util.regex.Pattern;
import java.util.stream.Stream;
import javax.tools.JavaCompiler;
import javax.tools.JavaFileObject;
import javax.tools.SimpleJavaFileObject;
import javax.tools.ToolProvider;

/** README.md: its code compiles, each answer it tells is the one given, no call and no test is left out. */
public final class ReadmeTest {
    private static final Check CHECK = new Check("ReadmeTest");
    private static final String ANSWER = "-?[0-9]+|BAD|NONE|NO|FULL";
    private static final Pattern BLOCK = Pattern.compile("```java\n(.*?)```", Pattern.DOTALL);
    /** A line of a block with the answer that it tells: x.call(..); // answer: words */
    private static final Pattern TELLS = Pattern.compile("(x\\.\\w+\\(.*?\\)); +// (" + ANSWER + ")(?::.*)?");
    /** What a row tells of a new object: `call(..)` is answer */
    private static final Pattern ROW_TELLS = Pattern.compile("`(\\w+\\([^`]*\\))` is (" + ANSWER + ")");
    private static final Pattern CALL_ROW = Pattern.compile("^\\| `(\\w+\\([^`]*\\))` \\|", Pattern.MULTILINE);
    private static final Pattern ANSWER_ROW = Pattern.compile("^\\| `([A-Z]+)` \\| (-[0-9]+) \\|", Pattern.MULTILINE);
    private static final Pattern TEST_ROW = Pattern.compile("^\\| `(\\w+Test)` \\|", Pattern.MULTILINE);

    public static void main(String[] args) throws Exception {
        String readme = Files.readString(Path.of("README.md"), StandardCharsets.UTF_8);
        answers(readme);
        calls(readme);
        constants(readme);
        tests(readme);
        CHECK.end();
    }

    private static void answers(String readme) throws Exception {
        List<Object[]> told = run(program(readme));
        for (Object[] one : told) {
            CHECK.due("README.md", (String) one[0], (Long) one[1], (Long) one[2]);
        }
        CHECK.isTrue("answers were found: " + told.size(), told.size() >= 50);
    }

    /** A class whose run method makes all calls and keeps each with its answer and the one told. */
    private static String program(String readme) {
        StringBuilder out = new StringBuilder("public final class ReadmeRun {\n"
            + "static final int BAD = -1, NO = -2, FULL = -3, NONE = -4;\n"
            + "public static void run(java.util.List<Object[]> told) {\n");
        for (MatchResult block : all(BLOCK, readme)) {
            out.append("{\n");
            for (String line : block.group(1).split("\n")) {
                Matcher tells = TELLS.matcher(line);
                boolean isTold = tells.matches();
                CHECK.isTrue("a call of x has its answer: " + line, isTold || !line.startsWith("x."));
                out.append(isTold ? kept(tells.group(1), tells.group(1), tells.group(2)) : line).append('\n');
            }
            out.append("}\n");
        }
        for (MatchResult row : all(ROW_TELLS, readme)) {
            out.append(kept(row.group(1), "new DoubtTime()." + row.group(1), row.group(2))).append('\n');
        }
        return out.append("}\n}\n").toString();
    }

    private static String kept(String call, String code, String answer) {
        String number = answer.matches("[A-Z]+") ? answer : answer + "L";
        return "told.add(new Object[] {\"" + call.replace("\"", "\\\"") + "\", (long) " + code + ", (long) " + number + "});";
    }

    private static List<MatchResult> all(Pattern pattern, String text) {
        return pattern.matcher(text).results().toList();
    }

    private static List<Object[]> run(String program) throws Exception {
        Path folder = Files.createTempDirectory("readme");
        List<Object[]> told = new ArrayList<>();
        try {
            if (compiles(program, folder)) {
                try (URLClassLoader loader = new URLClassLoader(new URL[] {folder.toUri().toURL()})) {
                    Method run = loader.loadClass("ReadmeRun").getMethod("run", List.class);
                    run.invoke(null, told);
                }
            }
        } finally {
            remove(folder);
        }
        return told;
    }

    private static boolean compiles(String program, Path folder) {
        JavaCompiler compiler = ToolProvider.getSystemJavaCompiler();
        JavaFileObject source = new SimpleJavaFileObject(URI.create("string:///ReadmeRun.java"), JavaFileObject.Kind.SOURCE) {
            @Override
            public CharSequence getCharContent(boolean ignoreEncodingErrors) {
                return program;
            }
        };
        StringWriter said = new StringWriter();
        List<String> options = List.of("-d", folder.toString(), "-classpath", System.getProperty("java.class.path"));
        boolean compiles = compiler.getTask(said, null, null, options, null, List.of(source)).call();
        CHECK.isTrue("the code compiles: " + said, compiles);
        return compiles;
    }

    private static void remove(Path folder) throws IOException {
        try (Stream<Path> paths = Files.walk(folder)) {
            paths.sorted(Comparator.reverseOrder()).forEach(ReadmeTest::removeOne);
        }
    }

    private static void removeOne(Path path) {
        try {
            Files.delete(path);
        } catch (IOException e) {
            throw new UncheckedIOException(e);
        }
    }

    /** A row for each call, in the document's order and with its names. */
    private static void calls(String readme) throws IOException {
        List<String> rows = new ArrayList<>();
        for (MatchResult row : all(CALL_ROW, readme)) {
            rows.add(row.group(1));
        }
        List<String> face = new ArrayList<>();
        for (String method : Document.faceMethods()) {
            face.add(method.replaceAll("\\b(?:int|long) ", ""));
        }
        CHECK.isTrue("a row for each call: " + rows + ", not " + face, rows.equals(face));
    }

    /** In the order in which they come, too. */
    private static void constants(String readme) {
        StringBuilder rows = new StringBuilder();
        for (MatchResult row : all(ANSWER_ROW, readme)) {
            rows.append(row.group(1)).append(row.group(2)).append(' ');
        }
        String want = "BAD" + DoubtTime.BAD + " NO" + DoubtTime.NO + " NONE" + DoubtTime.NONE + " FULL" + DoubtTime.FULL + " ";
        CHECK.isTrue("a row for each answer: " + rows + ", not " + want, want.contentEquals(rows));
    }

    private static void tests(String readme) throws IOException {
        TreeSet<String> rows = new TreeSet<>();
        for (MatchResult row : all(TEST_ROW, readme)) {
            rows.add(row.group(1) + ".java");
        }
        TreeSet<String> files = new TreeSet<>();
        try (Stream<Path> paths = Files.list(Path.of("src/test/java"))) {
            paths.map(path -> path.getFileName().toString()).filter(name -> name.endsWith("Test.java")).forEach(files::add);
        }
        CHECK.isTrue("a row for each test: " + rows + ", not " + files, rows.equals(files));
    }
}
