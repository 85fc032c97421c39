import java.io.IOException;
import java.net.URI;
import java.net.URL;
import java.net.URLClassLoader;
import java.nio.file.Files;
import java.nio.file.Path;
import java.util.List;
import java.util.Set;
import java.util.TreeSet;
import java.util.regex.Matcher;
import java.util.regex.Pattern;
import java.util.stream.Stream;
import javax.tools.JavaCompiler;
import javax.tools.JavaFileObject;
import javax.tools.SimpleJavaFileObject;
import javax.tools.ToolProvider;

/** What README.md says is so: its program is compiled and run, each answer told there being due; its tests are there. */
public final class ReadmeTest {
    private static final Check CHECK = new Check();
    // x.call(..); // answer: why
    private static final Pattern ANSWER = Pattern.compile("(?m)^(x\\.\\w+\\(.*\\)); +// (-?\\d+|true|false):");

    public static void main(String[] args) throws Exception {
        String page = Files.readString(Path.of("README.md"));
        program(page);
        tests(page);
        CHECK.end();
    }

    private static void program(String page) throws Exception {
        CHECK.part("the program");
        int from = page.indexOf("```java\n") + "```java\n".length();
        Matcher answers = ANSWER.matcher(page.substring(from, page.indexOf("```", from)));
        CHECK.due("answers are told", answers.results().count() > 20, true);
        String body = answers.reset().replaceAll("due(\"$1\", $1, $2); //");
        String whole = "public final class ReadmeProgram {\n"
            + "public static String wrong = \"\";\n"
            + "static void due(String call, long got, long want) { if (got != want) wrong += call + \" answered \" + got + \"; \"; }\n"
            + "static void due(String call, boolean got, boolean want) { due(call, got ? 1 : 0, want ? 1 : 0); }\n"
            + "public static void run() {\n" + body + "}\n}\n";
        CHECK.due("its answers", wrongOf(whole), "");
    }

    private static String wrongOf(String whole) throws Exception {
        Path out = Files.createTempDirectory("readme");
        JavaCompiler compiler = ToolProvider.getSystemJavaCompiler();
        JavaFileObject source = new SimpleJavaFileObject(URI.create("string:///ReadmeProgram.java"), JavaFileObject.Kind.SOURCE) {
            @Override
            public CharSequence getCharContent(boolean ignoreEncodingErrors) {
                return whole;
            }
        };
        List<String> options = List.of("-d", out.toString(), "-cp", System.getProperty("java.class.path"));
        try {
            if (!compiler.getTask(null, null, null, options, null, List.of(source)).call()) {
                return "it isn't compiled";
            }
            try (URLClassLoader loader = new URLClassLoader(new URL[] {out.toUri().toURL()})) {
                Class<?> made = loader.loadClass("ReadmeProgram");
                made.getMethod("run").invoke(null);
                return (String) made.getField("wrong").get(null);
            }
        } finally {
            Files.deleteIfExists(out.resolve("ReadmeProgram.class"));
            Files.deleteIfExists(out);
        }
    }

    private static void tests(String page) throws IOException {
        CHECK.part("the tests");
        Set<String> named = new TreeSet<>();
        Matcher rows = Pattern.compile("(?m)^\\| `(\\w+)` \\|").matcher(page);
        while (rows.find()) {
            named.add(rows.group(1) + ".java");
        }
        Set<String> there = new TreeSet<>();
        try (Stream<Path> files = Files.list(Path.of("src/test/java"))) {
            files.map(file -> file.getFileName().toString()).filter(name -> name.endsWith("Test.java")).forEach(there::add);
        }
        CHECK.due("the tests named", named.toString(), there.toString());
    }
}
