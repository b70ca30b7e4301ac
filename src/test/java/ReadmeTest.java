import java.io.IOException;
import java.net.URI;
import java.nio.charset.StandardCharsets;
import java.nio.file.Files;
import java.nio.file.Path;
import java.util.ArrayList;
import java.util.List;
import java.util.Set;
import java.util.TreeSet;
import java.util.regex.Matcher;
import java.util.regex.Pattern;
import java.util.stream.Stream;
import javax.tools.JavaCompiler;
import javax.tools.JavaFileObject;
import javax.tools.SimpleJavaFileObject;
import javax.tools.ToolProvider;

/** README.md, from the project's directory: its example answers as it says, and it tells each test. */
public final class ReadmeTest {
    private static final Due due = new Due();

    /** A call of the example, and behind // the answer that the page tells. */
    private static final Pattern CALL = Pattern.compile("((?:x\\.\\w+|tell)\\(.*\\));\\s*// (-?\\d+):.*");

    public static void main(String[] args) throws Exception {
        String page = Files.readString(Path.of("README.md"));
        example(javaBlocks(page));
        tests(page);
        due.finish("ReadmeTest");
    }

    /** The example's own class calls this. */
    public static void answer(String call, int got, int want) {
        due.is(call, got, want);
    }

    private static List<String> javaBlocks(String page) {
        List<String> blocks = new ArrayList<>();
        Matcher block = Pattern.compile("```java\n(.*?)```", Pattern.DOTALL).matcher(page);
        while (block.find()) {
            blocks.add(block.group(1));
        }
        return blocks;
    }

    private static void example(List<String> blocks) throws Exception {
        due.part("the example: a method, then calls with their answers");
        due.is("blocks of Java", blocks.size(), 2);
        StringBuilder body = new StringBuilder();
        int calls = 0;
        for (String line : blocks.get(1).split("\n")) {
            Matcher call = CALL.matcher(line);
            boolean told = call.matches();
            calls += told ? 1 : 0;
            body.append(told ? asAnswer(call.group(1), call.group(2)) : line).append('\n');
        }
        due.is("all but the first line are calls: " + calls, blocks.get(1).split("\n").length - calls, 1);
        run("public final class Example {\n" + blocks.get(0)
            + "public static void play() {\n" + body + "}\n}\n");
    }

    private static String asAnswer(String call, String want) {
        String words = call.replace("\\", "\\\\").replace("\"", "\\\"");
        return "ReadmeTest.answer(\"" + words + "\", " + call + ", " + want + ");";
    }

    private static void run(String source) throws Exception {
        Path out = Files.createTempDirectory("readme");
        JavaCompiler javac = ToolProvider.getSystemJavaCompiler();
        List<String> options = List.of("-d", out.toString(), "-cp", System.getProperty("java.class.path"));
        boolean compiled = javac.getTask(null, null, null, options, null, List.of(file(source))).call();
        due.is("the example compiles", compiled ? 1 : 0, 1);
        Path made = out.resolve("Example.class");
        if (compiled) {
            byte[] code = Files.readAllBytes(made);
            new Loader().load(code).getMethod("play").invoke(null);
        }
        Files.deleteIfExists(made);
        Files.delete(out);
    }

    private static JavaFileObject file(String source) {
        return new SimpleJavaFileObject(URI.create("string:///Example.java"), JavaFileObject.Kind.SOURCE) {
            @Override
            public CharSequence getCharContent(boolean ignored) {
                return source;
            }
        };
    }

    private static final class Loader extends ClassLoader {
        Loader() {
            super(ReadmeTest.class.getClassLoader());
        }

        Class<?> load(byte[] code) {
            return defineClass("Example", code, 0, code.length);
        }
    }

    private static void tests(String page) throws IOException {
        due.part("each test of the project is told, and no other");
        Set<String> told = new TreeSet<>();
        Matcher name = Pattern.compile("^- `(\\w+Test)`:", Pattern.MULTILINE).matcher(page);
        while (name.find()) {
            told.add(name.group(1));
        }
        Set<String> there = new TreeSet<>();
        try (Stream<Path> files = Files.list(Path.of("src/test/java"))) {
            files.map(f -> f.getFileName().toString()).filter(f -> f.endsWith("Test.java"))
                .forEach(f -> there.add(f.substring(0, f.length() - ".java".length())));
        }
        due.is("told " + told + ", there " + there, told.equals(there) ? 1 : 0, 1);
        String run = Files.readString(Path.of(".ci/run"), StandardCharsets.UTF_8);
        due.is(".ci/run takes each *Test of src/test/java", run.contains("src/test/java/*Test.java") ? 1 : 0, 1);
        due.is(".ci/run takes each of ../shared/tests", run.contains("shared=../shared/tests") ? 1 : 0, 1);
        due.is("warnings are errors", run.contains("-Xlint:all -Werror") ? 1 : 0, 1);
    }
}
