import java.util.LinkedHashSet;
import java.util.Set;

/** What the tests share: feeding a text, and comparing answers. */
final class Check {
    private final String title;
    private final Set<String> sentences = new LinkedHashSet<>();
    private final Set<String> broken = new LinkedHashSet<>();
    private String sentence = "";
    private int calls;
    private int wrong;

    Check(String title) {
        this.title = title;
    }

    /** A test of its own for these words of the document. */
    void sentence(String words, Runnable test) {
        sentence = words;
        if (!sentences.add(words)) {
            throw new IllegalStateException("two tests of «" + words + "»");
        }
        try {
            test.run();
        } catch (RuntimeException e) {
            due("a call, which threw " + e, 1, 0);
        }
        sentence = "";
    }

    void due(String call, long got, long want) {
        calls++;
        if (got != want) {
            wrong++;
            broken.add(sentence);
            if (wrong <= 30) {
                String of = sentence.isEmpty() ? "" : " «" + sentence + "»:";
                System.out.println(title + ":" + of + " " + call + " answered " + got + ", due is " + want);
            }
        }
    }

    void due(String call, boolean got, boolean want) {
        due(call, got ? 1 : 0, want ? 1 : 0);
    }

    /** Every answer about the one must be that about the other: calls in between did nothing. */
    void same(String when, NineChairs got, NineChairs want) {
        String[] are = Facts.of(got);
        String[] were = Facts.of(want);
        for (int i = 0; i < are.length; i++) {
            due(when + ", where " + were[i] + " was due, " + are[i], are[i].equals(were[i]), true);
        }
    }

    Set<String> sentences() {
        return sentences;
    }

    Set<String> broken() {
        return broken;
    }

    void end() {
        String of = sentences.isEmpty() ? "" : " of " + sentences.size() + " sentences";
        System.out.println(title + ": " + calls + " answers" + of + ", " + wrong + " wrong");
        if (wrong != 0) {
            System.exit(1);
        }
    }

    /** Puts a text on the TAPE, which must be empty, and answers how many bytes it has then. */
    static int feed(NineChairs x, String text) {
        int fed = 0;
        for (int i = 0; i < text.length(); i += 20) {
            fed = x.feed(word(text, i), word(text, i + 4), word(text, i + 8), word(text, i + 12),
                    word(text, i + 16));
            if (fed < 0) {
                return fed;
            }
        }
        return x.end(text.length());
    }

    static NineChairs sitting(String text) {
        NineChairs x = new NineChairs();
        feed(x, text);
        if (x.hall() < 0) {
            throw new IllegalStateException("a text of the tests has a fault: " + text);
        }
        return x;
    }

    void fault(String text, int fault, int place) {
        NineChairs x = new NineChairs();
        feed(x, text);
        due("hall of «" + text + "»", x.hall() < 0 ? -1 : 0, fault == 0 ? 0 : -1);
        due("fault(0) of «" + text + "»", x.fault(0), fault);
        due("fault(1) of «" + text + "»", x.fault(1), place);
    }

    private static int word(String text, int at) {
        int word = 0;
        for (int i = at; i < at + 4; i++) {
            word = word << 8 | (i < text.length() ? text.charAt(i) & 255 : 0);
        }
        return word;
    }
}
