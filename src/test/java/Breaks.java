import java.io.ByteArrayOutputStream;
import java.io.IOException;
import java.io.OutputStream;
import java.io.PrintStream;
import java.io.Writer;
import java.lang.reflect.Method;
import java.net.URI;
import java.nio.file.Files;
import java.nio.file.Path;
import java.util.ArrayList;
import java.util.HashMap;
import java.util.LinkedHashMap;
import java.util.LinkedHashSet;
import java.util.List;
import java.util.Map;
import java.util.Set;
import javax.tools.FileObject;
import javax.tools.ForwardingJavaFileManager;
import javax.tools.JavaCompiler;
import javax.tools.JavaFileManager;
import javax.tools.JavaFileObject;
import javax.tools.SimpleJavaFileObject;
import javax.tools.ToolProvider;

/**
 * Breaks the class on purpose, one sentence of the document at a time, and looks whether the test
 * of that sentence fails. It is run by hand: java -cp .. Breaks. What is broken, and how, stands in
 * src/test/breaks.txt: "#" the sentence, "@" behind what to look (or not told), "-" what is taken out,
 * "+" what is put in its place; other lines are headings.
 */
public final class Breaks {
    private static final String[] TESTS = {"HallEdgeTest", "ActEdgeTest", "PlanEdgeTest", "BookEdgeTest"};
    private static final PrintStream OUT = System.out;

    private record Break(String sentence, String behind, String from, String to) {
    }

    public static void main(String[] args) throws Exception {
        String source = Files.readString(Path.of("src/main/java/NineChairs.java"));
        String only = args.length > 0 ? args[0] : "";
        Map<String, String> testOf = new LinkedHashMap<>();
        System.setOut(new PrintStream(OutputStream.nullOutputStream()));
        Map<String, byte[]> whole = compiled(source);
        int failed = 0;
        for (String test : TESTS) {
            Results r = results(whole, test);
            r.sentences.forEach(s -> testOf.put(s, test));
            failed += r.broken.size();
        }
        Set<String> untried = new LinkedHashSet<>(testOf.keySet());
        List<Break> breaks = read(Path.of("src/test/breaks.txt"));
        for (Break b : breaks) {
            if (b.sentence.contains(only)) {
                String wrong = wrongOf(b, source, testOf);
                untried.remove(b.sentence);
                if (!wrong.isEmpty()) {
                    failed++;
                    OUT.println(wrong + ": «" + b.sentence + "»: " + b.from + " -> " + b.to);
                }
            }
        }
        for (String s : untried) {
            if (only.isEmpty()) {
                failed++;
                OUT.println("no break of «" + s + "» stands in breaks.txt");
            }
        }
        OUT.println(breaks.size() + " breaks of " + testOf.size() + " sentences, " + failed + " not as they should be");
        System.exit(failed == 0 ? 0 : 1);
    }

    private static String wrongOf(Break b, String source, Map<String, String> testOf) throws Exception {
        if (!testOf.containsKey(b.sentence)) {
            return "no test has this sentence";
        }
        int behind = b.behind.isEmpty() ? 0 : source.indexOf(b.behind);
        int at = behind < 0 ? -1 : source.indexOf(b.from, behind);
        if (at < 0) {
            return "not in the source";
        }
        Map<String, byte[]> classes = compiled(source.substring(0, at) + b.to + source.substring(at + b.from.length()));
        if (classes.isEmpty()) {
            return "does not compile";
        }
        Results r = results(classes, testOf.get(b.sentence));
        return r.broken.contains(b.sentence) ? "" : "its test does not fail";
    }

    private static List<Break> read(Path file) throws IOException {
        List<Break> breaks = new ArrayList<>();
        String sentence = "";
        String behind = "";
        String from = "";
        for (String line : Files.readAllLines(file)) {
            String rest = line.length() > 2 ? line.substring(2) : "";
            switch (line.isEmpty() ? ' ' : line.charAt(0)) {
                case '#' -> {
                    sentence = rest;
                    behind = "";
                }
                case '@' -> behind = rest;
                case '-' -> from = rest;
                case '+' -> {
                    breaks.add(new Break(sentence, behind, from, rest));
                    behind = "";
                }
                default -> { }
            }
        }
        return breaks;
    }

    // ---- compiling and running, all in memory

    private static final class Results {
        Set<String> sentences = new LinkedHashSet<>();
        Set<String> broken = new LinkedHashSet<>();
    }

    /** A run that throws or does not end has broken all its sentences that came to no end. */
    private static Results results(Map<String, byte[]> classes, String test) throws Exception {
        Results r = new Results();
        Thread thread = new Thread(() -> {
            try {
                Method run = new Loader(classes).loadClass(test).getDeclaredMethod("run");
                run.setAccessible(true);
                Object check = run.invoke(null);
                r.sentences.addAll(strings(check, "sentences"));
                r.broken.addAll(strings(check, "broken"));
            } catch (ReflectiveOperationException e) {
                OUT.println("a run threw " + e.getCause());
            }
        });
        thread.setDaemon(true);
        thread.start();
        thread.join(30000);
        return r;
    }

    private static List<String> strings(Object check, String name) throws ReflectiveOperationException {
        Method m = check.getClass().getDeclaredMethod(name);
        m.setAccessible(true);
        List<String> all = new ArrayList<>();
        for (Object one : (Set<?>) m.invoke(check)) {
            all.add((String) one);
        }
        return all;
    }

    private static final class Loader extends ClassLoader {
        private final Map<String, byte[]> classes;

        Loader(Map<String, byte[]> classes) {
            super(ClassLoader.getPlatformClassLoader());
            this.classes = classes;
        }

        @Override
        protected Class<?> findClass(String name) throws ClassNotFoundException {
            byte[] code = classes.get(name);
            try {
                for (String dir : System.getProperty("java.class.path").split(":")) {
                    Path file = Path.of(dir, name + ".class");
                    code = code == null && Files.exists(file) ? Files.readAllBytes(file) : code;
                }
            } catch (IOException e) {
                throw new ClassNotFoundException(name, e);
            }
            if (code == null) {
                throw new ClassNotFoundException(name);
            }
            return defineClass(name, code, 0, code.length);
        }
    }

    private static Map<String, byte[]> compiled(String source) throws IOException {
        Map<String, ByteArrayOutputStream> made = new HashMap<>();
        JavaCompiler javac = ToolProvider.getSystemJavaCompiler();
        JavaFileObject file = new SimpleJavaFileObject(URI.create("string:///NineChairs.java"), JavaFileObject.Kind.SOURCE) {
            @Override
            public CharSequence getCharContent(boolean ignore) {
                return source;
            }
        };
        Map<String, byte[]> classes = new HashMap<>();
        try (JavaFileManager files = new Memory(javac.getStandardFileManager(null, null, null), made)) {
            if (javac.getTask(Writer.nullWriter(), files, d -> { }, null, null, List.of(file)).call()) {
                made.forEach((name, code) -> classes.put(name, code.toByteArray()));
            }
        }
        return classes;
    }

    private static final class Memory extends ForwardingJavaFileManager<JavaFileManager> {
        private final Map<String, ByteArrayOutputStream> made;

        Memory(JavaFileManager files, Map<String, ByteArrayOutputStream> made) {
            super(files);
            this.made = made;
        }

        @Override
        public JavaFileObject getJavaFileForOutput(Location at, String name, JavaFileObject.Kind kind, FileObject from) {
            return new SimpleJavaFileObject(URI.create("mem:///" + name.replace('$', '_')), kind) {
                @Override
                public OutputStream openOutputStream() {
                    ByteArrayOutputStream out = new ByteArrayOutputStream();
                    made.put(name, out);
                    return out;
                }
            };
        }
    }
}
