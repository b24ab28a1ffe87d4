import java.util.ArrayList;
import java.util.List;

/** All that can be asked of a sitting in some 160 calls, without changing it. */
final class Facts {
    private Facts() {
    }

    static String[] of(NineChairs x) {
        List<String> facts = new ArrayList<>();
        for (int what = 0; what <= 12; what++) {
            facts.add("about(" + what + ") = " + x.about(what));
        }
        for (int i = 0; i < 6; i++) {
            for (int what = 0; what < 6; what++) {
                facts.add("man(" + i + ", " + what + ") = " + x.man(i, what));
                facts.add("voted(" + i + ", " + what + ") = " + x.voted(i, what));
            }
            for (int what = 0; what < 4; what++) {
                facts.add("chair(" + i + ", " + what + ") = " + x.chair(i, what));
                facts.add("matter(" + i + ", " + what + ") = " + x.matter(i, what));
            }
            facts.add("deal(" + i + ") = " + x.deal(i));
            facts.add("sat(" + i + ", 1) = " + x.sat(i, 1));
            facts.add("sat(" + i + ", 2) = " + x.sat(i, 2));
            facts.add("sat(" + i + ", 3) = " + x.sat(i, 3));
        }
        for (int what = 0; what < 3; what++) {
            facts.add("judge(" + what + ", 50) = " + x.judge(what, 50));
        }
        facts.add("fault(0) = " + x.fault(0));
        facts.add("fault(1) = " + x.fault(1));
        return facts.toArray(new String[0]);
    }
}
