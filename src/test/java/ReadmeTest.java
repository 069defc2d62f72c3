import java.io.File;
import java.io.IOException;
import java.lang.reflect.Method;
import java.lang.reflect.Modifier;
import java.nio.charset.StandardCharsets;
import java.nio.file.Files;
import java.nio.file.Path;
import java.util.ArrayList;
import java.util.Comparator;
import java.util.List;
import java.util.regex.Matcher;
import java.util.regex.Pattern;
import java.util.stream.Stream;

/** What README.md says holds: its program, its commands and what they print, the calls and tests it names. */
public final class ReadmeTest {
    private static final Check CHECK = new Check();

    private static List<String> blocks(String readme, String kind) {
        List<String> found = new ArrayList<>();
        Matcher block = Pattern.compile("(?s)```" + kind + "\n(.*?)```").matcher(readme);
        while (block.find()) {
            found.add(block.group(1));
        }
        return found;
    }

    /** Runs commands as they stand, but for the directory that they write to: what they print. */
    private static String printed(String commands, Path out) throws IOException, InterruptedException {
        List<String> shell = List.of("bash", "-e", "-c", commands.replace(" out ", " " + out + " "));
        Process process = new ProcessBuilder(shell).redirectErrorStream(true).start();
        String text = new String(process.getInputStream().readAllBytes(), StandardCharsets.UTF_8);
        CHECK.same("exit code of " + commands + text, process.waitFor(), 0);
        return text.replace("\r\n", "\n");
    }

    private static void commands(String readme) throws IOException, InterruptedException {
        Path out = Files.createTempDirectory("readme");
        List<String> shell = blocks(readme, "sh");
        CHECK.same("three blocks of commands", shell.size(), 3);
        CHECK.same("the program", blocks(readme, "java").get(0), Files.readString(Path.of("src/test/java/Example.java")));
        CHECK.same("what it prints", printed(shell.get(0), out), blocks(readme, "text").get(0));
        CHECK.same("the whole run", shell.get(1), ".ci/run\n");
        CHECK.same("it can be run", Files.isExecutable(Path.of(".ci/run")), true);
        String tests = printed(shell.get(2), out);
        CHECK.same("TextTest alone", tests.contains("TextTest: "), true);
        CHECK.same("ModelTest alone", tests.contains("ModelTest: "), true);
        try (Stream<Path> all = Files.walk(out)) {
            all.sorted(Comparator.reverseOrder()).map(Path::toFile).forEach(File::delete);
        }
    }

    private static void calls(String readme) {
        for (Method method : GroundCourt.class.getDeclaredMethods()) {
            if (Modifier.isPublic(method.getModifiers())) {
                String name = method.getName();
                CHECK.same("what " + name + " is for", readme.matches("(?s).*\n\\|[^|]*`" + name + "`.*"), true);
            }
        }
    }

    private static void tests(String readme) {
        String[] files = new File("src/test/java").list();
        CHECK.same("tests were found", files != null && files.length > 10, true);
        int tests = 0;
        for (String file : files == null ? new String[0] : files) {
            if (file.endsWith("Test.java")) {
                tests++;
                CHECK.same(file + " is named", readme.contains("\n| `" + file.replace(".java", "") + "` |"), true);
            }
        }
        CHECK.same("no other is named", Pattern.compile("\n\\| `\\w+Test` \\|").matcher(readme).results().count(), tests);
    }

    public static void main(String[] args) throws IOException, InterruptedException {
        String readme = Files.readString(Path.of("README.md"));
        commands(readme);
        calls(readme);
        tests(readme);
        CHECK.finish("ReadmeTest");
    }
}
