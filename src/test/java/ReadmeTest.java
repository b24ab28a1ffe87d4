import java.io.File;
import java.lang.reflect.Method;
import java.lang.reflect.Modifier;
import java.nio.charset.StandardCharsets;
import java.nio.file.Files;
import java.nio.file.Path;
import java.util.Arrays;
import java.util.List;
import java.util.stream.Collectors;
import java.util.stream.Stream;

/** What README.md says: its example runs and prints what stands there; all calls and tests are named. */
public final class ReadmeTest {
    private static final Check check = new Check("ReadmeTest");

    public static void main(String[] args) throws Exception {
        String page = Files.readString(Path.of("README.md"));
        example(block(page, "java"), block(page, "text"));
        calls(page);
        tests(page);
        check.end();
    }

    /** The first block of this kind, without its fences. */
    private static String block(String page, String kind) {
        String open = "\n```" + kind + "\n";
        int from = page.indexOf(open);
        int to = from < 0 ? -1 : page.indexOf("```", from + open.length());
        check.due("README.md has a block of " + kind, to >= 0, true);
        return to < 0 ? "" : page.substring(from + open.length(), to);
    }

    private static void example(String source, String output) throws Exception {
        Path home = Files.createTempDirectory("readme");
        Path file = Files.writeString(home.resolve("Example.java"), source);
        String with = System.getProperty("java.class.path") + File.pathSeparator + home;
        run("javac", "-Xlint:all", "-Werror", "-cp", with, "-d", home.toString(), file.toString());
        List<String> got = run("java", "-cp", with, "Example").lines().collect(Collectors.toList());
        List<String> want = output.lines().collect(Collectors.toList());
        check.due("lines of the example", got.size(), want.size());
        for (int i = 0; i < got.size() && i < want.size(); i++) {
            check.due("«" + got.get(i) + "», where README.md has «" + want.get(i) + "»",
                    got.get(i).equals(want.get(i)), true);
        }
        for (String name : home.toFile().list()) {
            Files.delete(home.resolve(name));
        }
        Files.delete(home);
    }

    /** What the command prints, its complaints left out; it must end with 0. */
    private static String run(String... command) throws Exception {
        Process process = new ProcessBuilder(command).redirectError(ProcessBuilder.Redirect.INHERIT).start();
        String said = new String(process.getInputStream().readAllBytes(), StandardCharsets.UTF_8);
        check.due(command[0] + " for the example", process.waitFor(), 0);
        return said;
    }

    private static void calls(String page) {
        for (Method m : NineChairs.class.getDeclaredMethods()) {
            if (Modifier.isPublic(m.getModifiers())) {
                check.due("README.md names " + m.getName(), page.contains("`" + m.getName() + "`"), true);
            }
        }
    }

    private static void tests(String page) throws Exception {
        try (Stream<Path> files = Files.list(Path.of("src/test/java"))) {
            for (Path file : files.sorted().collect(Collectors.toList())) {
                String name = file.getFileName().toString();
                if (name.endsWith("Test.java")) {
                    String row = "| " + name.replace(".java", "") + " |";
                    check.due("README.md has a row of " + name, page.contains(row), true);
                }
            }
        }
        for (String needed : Arrays.asList("`.ci/run`", "`../shared/tests`", "`javac`")) {
            check.due("README.md tells of " + needed, page.contains(needed), true);
        }
    }
}
