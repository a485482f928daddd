import java.io.File;
import java.lang.reflect.Method;
import java.lang.reflect.Modifier;
import java.net.URL;
import java.net.URLClassLoader;
import java.nio.charset.StandardCharsets;
import java.nio.file.Files;
import java.nio.file.Path;
import java.util.ArrayList;
import java.util.List;
import java.util.regex.Matcher;
import java.util.regex.Pattern;
import javax.tools.ToolProvider;

/** What README.md shows is compiled and run: each call must answer what stands behind it. */
public final class ReadmeTest {
    private static final Check CHECK = new Check("ReadmeTest");
    private static final Pattern BLOCK = Pattern.compile("```java\n(.*?)```", Pattern.DOTALL);
    private static final Pattern SHOWN = Pattern.compile("((?:x\\.|tell\\().*\\)); *// (-?\\d+|NO_SUCH|NEVER|NONE)(?::.*)?");
    private static final Pattern MADE = Pattern.compile("(NextBest )?x = new NextBest\\(\\);");

    private static final StringBuilder MEMBERS = new StringBuilder();
    private static final StringBuilder CALLS = new StringBuilder();

    public static void main(String[] args) throws Exception {
        String page = Files.readString(Path.of("README.md"), StandardCharsets.UTF_8);
        Matcher block = BLOCK.matcher(page);
        while (block.find()) {
            if (block.group(1).startsWith("static ")) {
                MEMBERS.append(block.group(1));
            } else {
                block.group(1).lines().forEach(ReadmeTest::take);
            }
        }
        runShown();
        everyCallIsShown();
        everyTestIsNamed(page);
        CHECK.finish();
    }

    private static void no(String fault, boolean seen) {
        CHECK.due(fault, seen ? 1 : 0, 0);
    }

    private static void take(String line) {
        Matcher shown = SHOWN.matcher(line);
        if (shown.matches()) {
            String answer = shown.group(2);
            String due = Character.isLetter(answer.charAt(0)) ? "NextBest." + answer : answer + "L";
            String quoted = shown.group(1).replace("\\", "\\\\").replace("\"", "\\\"");
            CALLS.append("check.due(\"").append(quoted).append("\", ").append(shown.group(1)).append(", ").append(due).append(");\n");
        } else if (MADE.matcher(line).matches()) {
            CALLS.append(line).append('\n');
        } else {
            no("a line without a call and its answer: " + line, !line.isBlank());
        }
    }

    private static void runShown() throws Exception {
        Path dir = Files.createTempDirectory("readme");
        Path source = dir.resolve("Shown.java");
        Files.writeString(source, "public final class Shown {\n" + MEMBERS + "public static void run(Check check) {\n" + CALLS + "}\n}\n");
        int failed = ToolProvider.getSystemJavaCompiler().run(null, null, null,
                "-encoding", "UTF-8", "-cp", System.getProperty("java.class.path"), "-d", dir.toString(), source.toString());
        no("what is shown does not compile", failed != 0);
        if (failed == 0) {
            try (URLClassLoader loader = new URLClassLoader(new URL[] {dir.toUri().toURL()})) {
                loader.loadClass("Shown").getMethod("run", Check.class).invoke(null, CHECK);
            }
        }
        for (File left : dir.toFile().listFiles()) {
            Files.delete(left.toPath());
        }
        Files.delete(dir);
    }

    private static void everyCallIsShown() {
        for (Method method : NextBest.class.getDeclaredMethods()) {
            boolean open = Modifier.isPublic(method.getModifiers());
            no("a call that is not shown: " + method.getName(), open && !CALLS.toString().contains(", x." + method.getName() + "("));
        }
    }

    private static void everyTestIsNamed(String page) {
        List<String> there = new ArrayList<>();
        for (File file : new File("tests").listFiles()) {
            if (file.getName().endsWith("Test.java")) {
                there.add(file.getName().replace(".java", ""));
            }
        }
        for (String name : there) {
            no("a test that is not named: " + name, !page.contains("`" + name + "`"));
        }
        Matcher named = Pattern.compile("`(\\w+Test)`").matcher(page);
        while (named.find()) {
            no("a test that is not there: " + named.group(1), !there.contains(named.group(1)));
        }
        Matcher path = Pattern.compile("`((?:\\.\\./shared|src|tests|\\.ci)/[\\w./]+)`").matcher(page);
        while (path.find()) {
            no("a file that is not there: " + path.group(1), !new File(path.group(1)).exists());
        }
    }
}
