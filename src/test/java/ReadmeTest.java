import java.io.File;
import java.io.IOException;
import java.lang.reflect.InvocationTargetException;
import java.net.URL;
import java.net.URLClassLoader;
import java.nio.file.Files;
import java.nio.file.Path;
import java.util.ArrayList;
import java.util.List;
import java.util.regex.Matcher;
import java.util.regex.Pattern;
import java.util.stream.Stream;
import javax.tools.ToolProvider;

/**
 * Runs the Java blocks of README.md as one program, and compares what the lines answer with what stands
 * behind their "//": a number, a text in quotes, or "throws" and an exception.
 */
public final class ReadmeTest {
    private static final Check CHECK = new Check();
    private static final Pattern TOLD = Pattern.compile(
            "(?:int (\\w+) = )?(.+); +// (?:(-?\\d+)|(\"[^\"]*\")|throws (\\w+))(?:: .*)?");
    private static final String[] CALLS = {
        "load", "draw", "drop", "knock", "deal", "set", "undo", "keep", "restore", "append", "match", "player",
        "card", "restByPile", "bestDrop", "ifKnock", "needed", "writeLaying", "reportByte",
    };

    private int told;

    private ReadmeTest() {
    }

    public static void main(String[] args) throws IOException, ReflectiveOperationException {
        List<String> page = Files.readAllLines(Path.of("README.md"));
        for (String call : CALLS) {
            CHECK.isTrue("README.md shows how to call " + call, showsCall(blocks(page), call));
        }
        ReadmeTest test = new ReadmeTest();
        String source = test.program(blocks(page));
        CHECK.isTrue("README.md tells what its lines answer", test.told > 0);
        CHECK.same("lines that answer as README.md tells", run(source), test.told);
        CHECK.isTrue("README.md tells how to run the tests", page.contains(".ci/run"));
        CHECK.isTrue("README.md tells of each test", tellsEachTest(page));
        CHECK.end("ReadmeTest");
    }

    private static List<List<String>> blocks(List<String> page) {
        List<List<String>> blocks = new ArrayList<>();
        boolean isInside = false;
        for (String line : page) {
            if (line.equals("```java")) {
                blocks.add(new ArrayList<>());
                isInside = true;
            } else if (line.equals("```")) {
                isInside = false;
            } else if (isInside) {
                blocks.get(blocks.size() - 1).add(line);
            }
        }
        return blocks;
    }

    private static boolean showsCall(List<List<String>> blocks, String call) {
        for (List<String> block : blocks) {
            for (String line : block) {
                if (line.contains("runs." + call + "(")) {
                    return true;
                }
            }
        }
        return false;
    }

    private static boolean tellsEachTest(List<String> page) throws IOException {
        String whole = String.join("\n", page);
        try (Stream<Path> files = Files.list(Path.of("src/test/java"))) {
            return files.map(file -> file.getFileName().toString())
                    .filter(name -> name.endsWith("Test.java"))
                    .allMatch(name -> whole.contains("`" + name.replace(".java", "`")));
        }
    }

    /** The blocks of methods stand beside main(), the others in it, one behind the other. */
    private String program(List<List<String>> blocks) {
        StringBuilder methods = new StringBuilder();
        StringBuilder lines = new StringBuilder();
        for (List<String> block : blocks) {
            boolean isMethods = block.get(0).startsWith("static ");
            for (String line : block) {
                (isMethods ? methods : lines).append(isMethods ? line : compared(line)).append('\n');
            }
        }
        return "public final class ReadmeLines {\n" + methods
                + "public static int run() {\nCheck check = new Check();\ncheck.name(\"README.md\");\n" + lines
                + "return check.isAnyWrong() ? 0 : check.asked();\n}\n}\n";
    }

    private String compared(String line) {
        Matcher answer = TOLD.matcher(line);
        if (!answer.matches()) {
            CHECK.isTrue("a form that is known: " + line, !line.contains("//"));
            return line;
        }
        told++;
        String label = '"' + line.replaceAll(" +//.*", "").replace("\"", "\\\"") + '"';
        String call = answer.group(2);
        if (answer.group(5) != null) {
            String due = answer.group(5).equals("NoSuchElementException") ? "java.util." : "";
            return "check.throwsA(" + label + ", " + due + answer.group(5) + ".class, () -> " + call + ");";
        }
        String due = answer.group(3) != null ? answer.group(3) : answer.group(4);
        if (answer.group(1) != null) {
            return "int " + answer.group(1) + " = " + call + ";\n"
                    + "check.same(" + label + ", " + answer.group(1) + ", " + due + ");";
        }
        return "check.same(" + label + ", " + call + ", " + due + ");";
    }

    /** Tells how many lines answered, 0 if one answered wrong. */
    private static int run(String source) throws IOException, ReflectiveOperationException {
        Path directory = Files.createTempDirectory("readme");
        Path file = directory.resolve("ReadmeLines.java");
        Files.writeString(file, source);
        try {
            int code = ToolProvider.getSystemJavaCompiler().run(null, null, null, "-d", directory.toString(),
                    "-cp", System.getProperty("java.class.path"), file.toString());
            return code == 0 ? call(directory) : 0;
        } finally {
            for (File made : directory.toFile().listFiles()) {
                Files.delete(made.toPath());
            }
            Files.delete(directory);
        }
    }

    private static int call(Path directory) throws IOException, ReflectiveOperationException {
        List<URL> places = new ArrayList<>(List.of(directory.toUri().toURL()));
        for (String place : System.getProperty("java.class.path").split(File.pathSeparator)) {
            places.add(Path.of(place).toUri().toURL());
        }
        // Classes of one loader see one another, as they do in a program that is run from a directory.
        ClassLoader library = ClassLoader.getPlatformClassLoader();
        try (URLClassLoader loader = new URLClassLoader(places.toArray(new URL[0]), library)) {
            return (int) loader.loadClass("ReadmeLines").getMethod("run").invoke(null);
        } catch (InvocationTargetException e) {
            CHECK.fail("README.md's lines threw " + e.getCause());
            return 0;
        }
    }
}
