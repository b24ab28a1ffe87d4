/** What the tests share: feeding a text, and comparing answers. */
final class Check {
    private final String title;
    private int calls;
    private int wrong;

    Check(String title) {
        this.title = title;
    }

    void due(String call, long got, long want) {
        calls++;
        if (got != want) {
            wrong++;
            if (wrong <= 30) {
                System.out.println(title + ": " + call + " answered " + got + ", due is " + want);
            }
        }
    }

    void due(String call, boolean got, boolean want) {
        due(call, got ? 1 : 0, want ? 1 : 0);
    }

    void end() {
        System.out.println(title + ": " + calls + " answers, " + wrong + " wrong");
        if (wrong != 0) {
            System.exit(1);
        }
    }

    /** Puts a text on the TAPE, which must be empty, and answers how many bytes it has then. */
    static int feed(NineChairs x, String text) {
        int fed = 0;
        for (int i = 0; i < text.length(); i += 20) {
            fed = x.feed(word(text, i), word(text, i + 4), word(text, i + 8), word(text, i + 12),
                    word(text, i + 16));
            if (fed < 0) {
                return fed;
            }
        }
        return x.end(text.length());
    }

    static NineChairs sitting(String text) {
        NineChairs x = new NineChairs();
        feed(x, text);
        if (x.hall() < 0) {
            System.out.println("a text of the tests has a fault: " + text);
            System.exit(1);
        }
        return x;
    }

    void fault(String text, int fault, int place) {
        NineChairs x = new NineChairs();
        feed(x, text);
        due("hall of «" + text + "»", x.hall() < 0 ? -1 : 0, fault == 0 ? 0 : -1);
        due("fault(0) of «" + text + "»", x.fault(0), fault);
        due("fault(1) of «" + text + "»", x.fault(1), place);
    }

    private static int word(String text, int at) {
        int word = 0;
        for (int i = at; i < at + 4; i++) {
            word = word << 8 | (i < text.length() ? text.charAt(i) & 255 : 0);
        }
        return word;
    }
}
