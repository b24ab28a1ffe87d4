import java.lang.reflect.Constructor;
import java.lang.reflect.Field;
import java.lang.reflect.Method;
import java.lang.reflect.Modifier;
import java.nio.file.Files;
import java.nio.file.Path;
import java.util.ArrayList;
import java.util.Arrays;
import java.util.List;
import java.util.Set;
import java.util.TreeSet;

/** The public face as the document has it, and the rules of LANGUAGE.md that can be looked at. */
public final class FaceTest {
    private static final Check check = new Check("FaceTest");
    private static final String[] FACE = {
        "int feed(int,int,int,int,int)", "int end(int)", "int hall()", "int fault(int)", "int rise(int)",
        "int sit(int,int)", "int speak(int,int)", "int vote(int)", "int enter(int)", "int stay(int)",
        "int crack(int,boolean)", "boolean found(int)", "int man(int,int)", "int chair(int,int)",
        "int matter(int,int)", "int deal(int)", "int voted(int,int)", "int sat(int,int)", "int best(int,int)",
        "int fewest(int)", "int lets(int,int)", "int floor(int)", "int could(int,int,int,int)",
        "int entry(int,int,int)", "boolean untell(int)", "int later(int)", "int judge(int,int)",
        "int image(int)", "int back(int)", "int about(int)"};

    public static void main(String[] args) throws Exception {
        face();
        classes();
        source();
        check.end();
    }

    private static String signature(Method m) {
        List<String> types = new ArrayList<>();
        for (Class<?> type : m.getParameterTypes()) {
            types.add(type.getName());
        }
        return m.getReturnType().getName() + " " + m.getName() + "(" + String.join(",", types) + ")";
    }

    private static void face() {
        Set<String> want = new TreeSet<>(Arrays.asList(FACE));
        Set<String> got = new TreeSet<>();
        Set<String> names = new TreeSet<>();
        for (Method m : NineChairs.class.getDeclaredMethods()) {
            if (!Modifier.isPrivate(m.getModifiers()) && !m.isSynthetic()) {
                check.due(m + " is public", Modifier.isPublic(m.getModifiers()), true);
                check.due(m + " is of an object", Modifier.isStatic(m.getModifiers()), false);
                got.add(signature(m));
                names.add(m.getName());
            }
        }
        check.due("the methods " + got, got.equals(want), true);
        for (Method m : NineChairs.class.getDeclaredMethods()) {
            check.due("private " + m, Modifier.isPrivate(m.getModifiers()) && names.contains(m.getName()), false);
        }
        Set<String> fields = new TreeSet<>();
        for (Field f : NineChairs.class.getDeclaredFields()) {
            if (!Modifier.isPrivate(f.getModifiers()) && !f.isSynthetic()) {
                fields.add(f.toString());
            }
        }
        check.due("the constants " + fields, fields.toString().equals(
                "[public static final int NineChairs.GAP, public static final int NineChairs.NONE]"), true);
        Constructor<?>[] made = NineChairs.class.getDeclaredConstructors();
        check.due("one constructor", made.length == 1 && made[0].getParameterCount() == 0
                && Modifier.isPublic(made[0].getModifiers()), true);
        check.due("public and final", NineChairs.class.getModifiers(), Modifier.PUBLIC | Modifier.FINAL);
    }

    private static void classes() {
        Class<?>[] inside = NineChairs.class.getDeclaredClasses();
        check.due("at most twelve classes", inside.length + 1 <= 12, true);
        List<Class<?>> all = new ArrayList<>(Arrays.asList(inside));
        all.add(NineChairs.class);
        for (Class<?> c : all) {
            if (c != NineChairs.class) {
                check.due(c + " is static", Modifier.isStatic(c.getModifiers()), true);
                check.due(c + " is not public", Modifier.isPublic(c.getModifiers()), false);
            }
            int own = 0;
            for (Field f : c.getDeclaredFields()) {
                if (Modifier.isStatic(f.getModifiers())) {
                    check.due(f + " is final", Modifier.isFinal(f.getModifiers()), true);
                } else {
                    own++;
                }
            }
            check.due(c + " has some twenty fields", own <= 20, true);
            for (Method m : c.getDeclaredMethods()) {
                check.due(m + " has at most seven parameters", m.getParameterCount() <= 7, true);
                check.due(m + " is no answer of an object about itself",
                        Arrays.asList("equals", "hashCode", "toString").contains(m.getName()), false);
            }
        }
    }

    private static void source() throws Exception {
        String text = Files.readString(Path.of("src/main/java/NineChairs.java"));
        String code = text.replaceAll("(?s)/\\*.*?\\*/", "").replaceAll("//[^\n]*", "");
        String[] barred = {"throw", "throws", "try", "catch", "synchronized", "assert", "package", "Object",
            "System\\.(?!arraycopy)\\w+", "Random", "Map", "Set", "Thread", "default\\s*->", "->", "::", "var", "native"};
        for (String word : barred) {
            boolean isWord = Character.isLetter(word.charAt(0));
            String pattern = isWord ? "(?s).*\\b" + word + "\\b.*" : "(?s).*" + word + ".*";
            check.due("the source has " + word, code.matches(pattern), false);
        }
        check.due("the source has a sign beyond 127", text.chars().anyMatch(c -> c > 126), false);
        int start = 0;
        String[] lines = text.split("\n");
        for (int i = 0; i < lines.length; i++) {
            if (lines[i].matches(" {4,8}\\w.*\\) \\{")) {
                start = i;
            }
            if (lines[i].matches(" {4,8}\\}")) {
                check.due("the method that ends in line " + (i + 1) + " is short", i - start <= 60 || lines[i].startsWith("    }"), true);
            }
        }
    }
}
