import java.util.ArrayList;
import java.util.Arrays;
import java.util.HashSet;
import java.util.List;
import java.util.Random;
import java.util.Set;
import java.util.regex.Matcher;
import java.util.regex.Pattern;

/** Texts that were spoilt by a fixed seed: their FAULTS by NineChairs and by a second reader. */
public final class TextTest {
    private static final Check check = new Check("TextTest");
    private static final Set<String> WORDS = new HashSet<>(Arrays.asList(
            ("chair holds stool man strong door matter dies wish deal for nap pass or and not yes no"
                    + " sits stands here").split(" ")));
    private static final String[] BITS = (
            "chair|holds|stool|man|strong|door|matter|dies|wish|deal|for|nap|pass|or|and|not|yes|no|sits"
            + "|stands|here|a|b|c|d|abcdefgh|abcdefghi|0|1|2|3|30|31|99|100|999|1000|9999|10000|;|-|(|)|<|>|=|+|*"
            + "|$|A| |\n|\t|not not|((|))|man a strong 3;|matter b dies 4;|chair c holds 1;|wish a b -1;"
            + "|deal a b for c d;|nap 3;|pass 1;|pass yes>no;|1a|a1").split("\\|");

    public static void main(String[] args) {
        Random random = new Random(7);
        int faultless = 0;
        for (int i = 0; i < 40000; i++) {
            StringBuilder text = new StringBuilder(whole(random));
            int spoils = random.nextInt(4);
            for (int j = 0; j < spoils; j++) {
                spoil(text, random);
            }
            if (text.length() > 1680) {
                text.setLength(1680);
            }
            int[] due = new SecondReader(text.toString()).read();
            faultless += due[0] == 0 ? 1 : 0;
            NineChairs x = new NineChairs();
            Check.feed(x, text.toString());
            String shown = i + " «" + text + "»";
            check.due("hall() of " + shown, x.hall(), due[0] == 0 ? due[2] : -1);
            check.due("fault(0) of " + shown, x.fault(0), due[0]);
            check.due("fault(1) of " + shown, x.fault(1), due[1]);
        }
        check.due("some texts have no fault", faultless > 1000, true);
        check.end();
    }

    private static void spoil(StringBuilder text, Random random) {
        int at = random.nextInt(text.length() + 1);
        switch (random.nextInt(3)) {
            case 0:
                text.delete(at, Math.min(text.length(), at + 1 + random.nextInt(3)));
                break;
            case 1:
                text.insert(at, BITS[random.nextInt(BITS.length)]);
                break;
            default:
                text.insert(at, " " + BITS[random.nextInt(BITS.length)] + " ");
                break;
        }
    }

    private static String whole(Random random) {
        StringBuilder text = new StringBuilder();
        int men = 1 + random.nextInt(6);
        int matters = 1 + random.nextInt(4);
        for (int i = random.nextInt(7); i > 0; i--) {
            text.append("chair ").append((char) ('a' + i)).append(" holds ").append(1 + i % 2).append(i == 3 ? " stool;" : ";");
        }
        for (int i = 0; i < men; i++) {
            text.append("man ").append((char) ('a' + i)).append(" strong ").append(1 + 5 * i).append(i == 3 ? " door;" : "; ");
        }
        for (int i = 0; i < matters; i++) {
            text.append("matter ").append((char) ('a' + i)).append(" dies ").append(1 + 300 * i).append(";\n");
        }
        for (int i = 0; i < men * matters; i++) {
            if (random.nextInt(3) > 0) {
                text.append("wish ").append((char) ('a' + i / matters)).append(' ').append((char) ('a' + i % matters))
                        .append(' ').append(random.nextInt(199) - 99).append(';');
            }
        }
        for (int i = random.nextInt(5); i > 0 && men > 1 && matters > 1; i--) {
            text.append("deal a b for b a;");
        }
        if (random.nextBoolean()) {
            text.append("nap 7;");
        }
        if (random.nextInt(3) > 0) {
            text.append("pass ");
            e(text, random, 9);
            text.append(';');
        }
        return text.toString();
    }

    private static void e(StringBuilder text, Random random, int deep) {
        int pieces = 1 + random.nextInt(3);
        for (int i = 0; i < pieces; i++) {
            if (i > 0) {
                text.append(new String[] {" or ", " and ", "+", "-", "*", " and not ", " or not not "}[random.nextInt(7)]);
            }
            if (deep > 0 && random.nextInt(3) == 0) {
                text.append('(');
                e(text, random, deep - 1);
                text.append(')');
            } else {
                text.append(new String[] {"yes", "no", "sits", "stands", "here", "12", "0", "9999"}[random.nextInt(8)]);
            }
        }
    }

    /** Stops reading, with the FAULT found. */
    private static final class Stop extends RuntimeException {
        private static final long serialVersionUID = 1L;
        final int fault;
        final int place;

        Stop(int fault, int place) {
            this.fault = fault;
            this.place = place;
        }
    }

    private static final class SecondReader {
        private static final Pattern TOKEN = Pattern.compile("[ \\n]*(?:([a-z]+)|([0-9]+)|([;\\-()<>=+*])|($)|(.))", Pattern.DOTALL);
        final List<String> tokens = new ArrayList<>();
        final List<Integer> places = new ArrayList<>();
        final List<String> chairs = new ArrayList<>();
        final List<String> men = new ArrayList<>();
        final List<String> matters = new ArrayList<>();
        final Set<String> wishes = new HashSet<>();
        int deals;
        boolean nap;
        boolean pass;
        int units;
        int at;

        SecondReader(String text) {
            Matcher m = TOKEN.matcher(text);
            boolean more = true;
            while (more && m.find()) {
                if (m.group(1) != null) {
                    add(m.group(1).length() > 8 ? "?" : m.group(1), m.start(1));
                } else if (m.group(2) != null) {
                    boolean letter = m.end() < text.length() && text.charAt(m.end()) >= 'a' && text.charAt(m.end()) <= 'z';
                    add(m.group(2).length() > 4 || letter ? "?" : m.group(2), m.start(2));
                } else if (m.group(3) != null) {
                    add(m.group(3), m.start(3));
                } else if (m.group(5) != null) {
                    add("?", m.start(5));
                } else {
                    more = false;
                }
                more &= !"?".equals(tokens.isEmpty() ? "" : tokens.get(tokens.size() - 1));
            }
            add("", text.length());
        }

        void add(String token, int place) {
            tokens.add(token);
            places.add(place);
        }

        int[] read() {
            try {
                while (!peek().isEmpty()) {
                    line();
                }
            } catch (Stop s) {
                return new int[] {s.fault, s.place, 0};
            }
            return new int[] {0, -1, men.size()};
        }

        String peek() {
            if (tokens.get(at).equals("?")) {
                throw new Stop(1, places.get(at));
            }
            return tokens.get(at);
        }

        Stop stop(int fault) {
            return new Stop(fault, places.get(at));
        }

        void need(String token) {
            if (!peek().equals(token)) {
                throw stop(2);
            }
            at++;
        }

        boolean isNumber(String s) {
            return s.matches("[0-9]{1,4}");
        }

        int number(int least, int most, int faultAt) {
            if (!isNumber(peek())) {
                throw stop(2);
            }
            int n = Integer.parseInt(peek());
            if (n < least || n > most) {
                throw new Stop(4, places.get(faultAt));
            }
            at++;
            return n;
        }

        String name() {
            if (!peek().matches("[a-z]{1,8}") || WORDS.contains(peek())) {
                throw stop(2);
            }
            return peek();
        }

        void fresh(List<String> names) {
            String name = name();
            if (names.contains(name)) {
                throw stop(3);
            }
            names.add(name);
            at++;
        }

        String told(List<String> names) {
            String name = name();
            if (!names.contains(name)) {
                throw stop(5);
            }
            return name;
        }

        void line() {
            String first = peek();
            boolean many = first.equals("chair") && chairs.size() == 6 || first.equals("man") && men.size() == 6
                    || first.equals("matter") && matters.size() == 4 || first.equals("wish") && wishes.size() == 24
                    || first.equals("deal") && deals == 4 || first.equals("nap") && nap || first.equals("pass") && pass;
            if (many || !Arrays.asList("chair", "man", "matter", "wish", "deal", "nap", "pass").contains(first)) {
                throw stop(2);
            }
            at++;
            if (first.equals("chair")) {
                fresh(chairs);
                need("holds");
                number(1, 2, at);
                at += peek().equals("stool") ? 1 : 0;
            } else if (first.equals("man")) {
                fresh(men);
                need("strong");
                number(1, 30, at);
                at += peek().equals("door") ? 1 : 0;
            } else if (first.equals("matter")) {
                fresh(matters);
                need("dies");
                number(1, 999, at);
            } else if (first.equals("wish")) {
                wish();
            } else if (first.equals("deal")) {
                deal();
            } else if (first.equals("nap")) {
                nap = true;
                number(1, 99, at);
            } else {
                pass = true;
                or(0);
            }
            need(";");
        }

        void wish() {
            String man = told(men);
            at++;
            String matter = told(matters);
            if (!wishes.add(man + " " + matter)) {
                throw stop(3);
            }
            at++;
            int sign = at;
            at += peek().equals("-") ? 1 : 0;
            number(0, 99, sign);
        }

        void deal() {
            String man = told(men);
            at++;
            String matter = told(matters);
            at++;
            need("for");
            if (told(men).equals(man)) {
                throw stop(3);
            }
            at++;
            if (told(matters).equals(matter)) {
                throw stop(3);
            }
            at++;
            deals++;
        }

        void or(int within) {
            and(within);
            while (peek().equals("or")) {
                at++;
                and(within);
            }
        }

        void and(int within) {
            one(within);
            while (peek().equals("and")) {
                at++;
                one(within);
            }
        }

        void one(int within) {
            if (peek().equals("not")) {
                if (within >= 7) {
                    throw stop(2);
                }
                at++;
                one(within + 1);
                return;
            }
            sum(within);
            if (peek().matches("[<>=]")) {
                at++;
                sum(within);
            }
        }

        void sum(int within) {
            term(within);
            while (peek().matches("[+-]")) {
                at++;
                term(within);
            }
        }

        void term(int within) {
            unit(within);
            while (peek().equals("*")) {
                at++;
                unit(within);
            }
        }

        void unit(int within) {
            String token = peek();
            boolean plain = isNumber(token) || Arrays.asList("yes", "no", "sits", "stands", "here").contains(token);
            if (!plain && !token.equals("(") || units == 40 || token.equals("(") && within >= 7) {
                throw stop(2);
            }
            units++;
            at++;
            if (!plain) {
                or(within + 1);
                need(")");
            }
        }
    }
}
