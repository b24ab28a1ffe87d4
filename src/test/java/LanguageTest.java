import java.io.PrintWriter;
import java.io.StringWriter;
import java.util.ArrayList;
import java.util.Arrays;
import java.util.HashSet;
import java.util.List;
import java.util.Map;
import java.util.Optional;
import java.util.Set;
import java.util.TreeMap;
import java.util.TreeSet;
import java.util.regex.Matcher;
import java.util.regex.Pattern;
import java.util.spi.ToolProvider;

/**
 * Rules of LANGUAGE.md that show in the compiled class: what it calls, how deep, what it makes. It
 * looks through javap, which a machine with javac and java alone may lack: then nothing is looked at.
 */
public final class LanguageTest {
    private static final Check check = new Check("LanguageTest");
    private static final int DEEPEST = 8;
    /** Of what rule 4 allows, what the class uses; look a new one up there before it is put here. */
    private static final Set<String> LIBRARY = Set.of(
            "java/lang/Integer.bitCount", "java/lang/Math.max", "java/lang/Math.min", "java/lang/Object.<init>",
            "java/lang/String.charAt", "java/lang/String.indexOf", "java/lang/String.length",
            "java/lang/System.arraycopy", "java/util/Arrays.fill");
    private static final Pattern CLASS = Pattern.compile("^(?:\\w+ )*class ([\\w$]+) \\{");
    private static final Pattern METHOD = Pattern.compile("^  (?:[\\w$.\\[\\]]+ )*([\\w$]+)\\(.*\\);");
    private static final Pattern CALL = Pattern.compile("invoke\\w+ .*// \\w*Method (?:([\\w$/]+)\\.)?\"?([\\w<>]+)\"?:");
    private static final Pattern MADE = Pattern.compile("\\d+: (new|newarray|anewarray|multianewarray) ");

    private static final Map<String, Set<String>> calls = new TreeMap<>();
    private static final Set<String> makers = new TreeSet<>();
    private static final Set<String> library = new TreeSet<>();

    public static void main(String[] args) {
        Optional<ToolProvider> javap = ToolProvider.findFirst("javap");
        if (javap.isEmpty()) {
            System.out.println("LanguageTest: there is no javap here, nothing was looked at");
            return;
        }
        String text = compiled(javap.get());
        read(text);
        check.due("lambdas, or texts joined by +", text.contains("invokedynamic"), false);
        check.due("methods were read: " + calls.size(), calls.size() > 100, true);
        check.due("calls of the library " + library, library.equals(LIBRARY), true);
        onlyConstructorsMake();
        depth();
        check.end();
    }

    private static String compiled(ToolProvider javap) {
        List<String> asked = new ArrayList<>(
                Arrays.asList("-p", "-c", "-cp", System.getProperty("java.class.path"), "NineChairs"));
        for (Class<?> inside : NineChairs.class.getDeclaredClasses()) {
            asked.add(inside.getName());
        }
        StringWriter text = new StringWriter();
        PrintWriter out = new PrintWriter(text);
        int ended = javap.run(out, out, asked.toArray(new String[0]));
        out.flush();
        check.due("javap", ended, 0);
        return text.toString();
    }

    private static void read(String text) {
        String inClass = "";
        String inMethod = "";
        for (String line : text.split("\n")) {
            Matcher found = CLASS.matcher(line);
            if (found.find()) {
                inClass = found.group(1);
            }
            found = METHOD.matcher(line);
            if (found.find()) {
                String name = found.group(1).equals(inClass) ? "<init>" : found.group(1);
                inMethod = inClass + "." + name;
                calls.putIfAbsent(inMethod, new TreeSet<>());
            } else if (line.startsWith("  static {}")) {
                inMethod = inClass + ".<clinit>";
                calls.putIfAbsent(inMethod, new TreeSet<>());
            }
            found = CALL.matcher(line);
            if (found.find()) {
                String owner = found.group(1) == null ? inClass : found.group(1);
                String called = owner + "." + found.group(2);
                (owner.startsWith("java/") ? library : calls.get(inMethod)).add(called);
            }
            if (MADE.matcher(line).find()) {
                makers.add(inMethod);
            }
        }
    }

    /** One room holds all that a run makes: rows are made once, and used again. */
    private static void onlyConstructorsMake() {
        check.due("makers were read", makers.isEmpty(), false);
        for (String maker : makers) {
            check.due(maker + " makes an object", maker.endsWith("init>"), true);
        }
    }

    /** The longest chain of calls; a method that is open already is not gone into again. */
    private static void depth() {
        for (String method : calls.keySet()) {
            int deep = deepest(method, new HashSet<>());
            check.due(method + " goes " + deep + " deep", deep <= DEEPEST, true);
        }
    }

    private static int deepest(String method, Set<String> open) {
        int most = 0;
        open.add(method);
        for (String called : calls.getOrDefault(method, Set.of())) {
            if (!open.contains(called)) {
                most = Math.max(most, deepest(called, open));
            }
        }
        open.remove(method);
        return most + 1;
    }
}
