/** Promises 25 to 31: ENTRIES, TIMES, judging, images, about. */
public final class BookTest {
    private static final Check check = new Check("BookTest");
    private static final String TEXT =
            "chair c holds 2;chair d holds 1 stool;man p strong 20;man q strong 20;man r strong 20;man s strong 20 door;"
            + "matter x dies 99;matter y dies 99;wish p x 5;wish q x -1;wish p y -3;deal q x for r y;nap 9;pass yes+1>no;";

    public static void main(String[] args) {
        entries();
        untelling();
        entriesOfTheHallBefore();
        time();
        judging();
        judgingTheLast();
        images();
        imagesOfVotes();
        about();
        check.end();
    }

    private static void entries() {
        NineChairs x = Check.sitting(TEXT);
        check.due("entry(-1, 0, 1)", x.entry(-1, 0, 1), -1);
        check.due("entry(100, 0, 1)", x.entry(100, 0, 1), -1);
        check.due("entry(0, -1, 1)", x.entry(0, -1, 1), -1);
        check.due("entry(0, 4, 1)", x.entry(0, 4, 1), -1);
        check.due("entry(0, 0, 2)", x.entry(0, 0, 2), -1);
        check.due("entry(0, 0, -2)", x.entry(0, 0, -2), -1);
        check.due("ENTRIES", x.about(7), 0);
        for (int i = 0; i < 40; i++) {
            check.due("entry " + i, x.entry(i % 2 == 0 ? 99 : 0, i % 4, i % 3 - 1), i);
        }
        check.due("a 41st", x.entry(0, 0, 0), -1);
        check.due("ENTRIES", x.about(7), 40);
        check.due("untell(39)", x.untell(39), true);
        check.due("a 41st, one being untold", x.entry(0, 0, 0), -1);
    }

    private static void untelling() {
        NineChairs x = Check.sitting(TEXT);
        check.due("untell(0)", x.untell(0), false);
        x.entry(0, 0, 1);
        check.due("untell(-1)", x.untell(-1), false);
        check.due("untell(1)", x.untell(1), false);
        check.due("untell(0)", x.untell(0), true);
        check.due("untell(0) again", x.untell(0), false);
        check.due("it has its number yet", x.entry(0, 0, 1), 1);
        check.due("ENTRIES", x.about(7), 2);
    }

    private static void entriesOfTheHallBefore() {
        NineChairs x = Check.sitting(TEXT);
        x.entry(0, 0, 1);
        x.entry(0, 2, 1);
        Check.feed(x, TEXT);
        x.hall();
        check.due("untell(0) of none", x.untell(0), false);
        x.speak(2, 0);
        x.vote(0);
        for (int what = 0; what < 2; what++) {
            check.due("judge(" + what + ", 0) of none", x.judge(what, 0), 0);
        }
        check.due("judge(2, 0) of none", x.judge(2, 0), -1);
        check.due("entry(0, 0, 0)", x.entry(0, 0, 0), 0);
        check.due("judge(0, 0)", x.judge(0, 0), 0);
    }

    private static void time() {
        NineChairs x = new NineChairs();
        check.due("later(0)", x.later(0), 0);
        check.due("later(-1)", x.later(-1), -1);
        check.due("later(1001)", x.later(1001), -1);
        check.due("later(7)", x.later(7), 7);
        for (int i = 1; i <= 99; i++) {
            check.due("later(1000)", x.later(1000), 7 + 1000 * i);
        }
        check.due("later(994)", x.later(994), -1);
        check.due("later(993)", x.later(993), 100000);
        check.due("later(1)", x.later(1), -1);
        check.due("later(0)", x.later(0), 100000);
        check.due("TIME", x.about(8), 100000);
    }

    /** p says yes, q no, r stands, s is at the door. */
    private static void judging() {
        NineChairs x = Check.sitting(TEXT);
        x.speak(2, 0);
        x.sit(0, 0);
        x.sit(1, 0);
        x.vote(0);
        x.later(10);
        int[][] told = {{0, 0, 1}, {0, 1, -1}, {0, 2, 0}, {0, 0, 0}, {0, 1, 1}, {0, 2, 1}, {0, 3, -1}, {1, 0, 1}, {0, 3, 0}};
        for (int[] t : told) {
            x.entry(t[0], t[1], t[2]);
        }
        check.due("judge(0, 9), not told yet", x.judge(0, 9), 0);
        check.due("judge(2, 9)", x.judge(2, 9), -1);
        check.due("judge(0, 10)", x.judge(0, 10), 4);
        check.due("judge(1, 10)", x.judge(1, 10), 2);
        check.due("judge(2, 10)", x.judge(2, 10), 3);
        check.due("judge(3, 10)", x.judge(3, 10), -1);
        check.due("judge(-1, 10)", x.judge(-1, 10), -1);
        check.due("untold at the same TIME", x.untell(3), true);
        check.due("judge(2, 10)", x.judge(2, 10), 4);
        x.later(5);
        x.untell(5);
        check.due("judge(0, 14)", x.judge(0, 14), 3);
        check.due("judge(0, 15)", x.judge(0, 15), 2);
        check.due("judge(1, 14)", x.judge(1, 14), 2);
        check.due("judge(1, 15)", x.judge(1, 15), 1);
        check.due("judge(0, -5)", x.judge(0, -5), 0);
        check.due("judge(0, MAX)", x.judge(0, Integer.MAX_VALUE), 2);
        check.due("judge(0, MIN)", x.judge(0, Integer.MIN_VALUE), 0);
        x.speak(2, 1);
        x.vote(1);
        check.due("now VOTE 1 is kept", x.judge(0, 15), 3);
        check.due("the first", x.judge(2, 15), 4);
        x.untell(4);
        check.due("the first", x.judge(2, 15), 6);
    }

    private static void judgingTheLast() {
        NineChairs x = Check.sitting("chair c holds 2;man p strong 9;man q strong 9;man r strong 9;matter x dies 9;wish q x 5;wish r x -5;");
        x.speak(0, 0);
        x.sit(1, 0);
        x.sit(2, 0);
        x.vote(0);
        int[] truth = {0, 1, -1};
        for (int man = 0; man < 3; man++) {
            for (int said = -1; said <= 1; said++) {
                int before = x.judge(0, 0);
                x.entry(0, man, said);
                check.due("entry(0, " + man + ", " + said + ") is FALSE", x.judge(0, 0) - before, said == truth[man] ? 0 : 1);
            }
        }
        check.due("STOOD", x.judge(1, 0), 2);
    }

    private static void imagesOfVotes() {
        NineChairs x = Check.sitting("man p strong 20;man q strong 20;matter w dies 99;matter x dies 99;matter y dies 99;matter z dies 99;");
        for (int matter = 0; matter < 4; matter++) {
            x.speak(0, matter);
        }
        x.image(0);
        for (int matter = 0; matter < 4; matter++) {
            x.vote(matter);
        }
        x.image(1);
        x.back(0);
        x.stay(1);
        for (int matter = 3; matter >= 0; matter--) {
            x.vote(matter);
        }
        check.due("voted(3, 1)", x.voted(3, 1), 0);
        check.due("voted(3, 0)", x.voted(3, 0), 9);
        x.back(1);
        for (int i = 0; i < 4; i++) {
            check.due("voted(" + i + ", 0)", x.voted(i, 0), 5 + i);
            check.due("voted(" + i + ", 1)", x.voted(i, 1), i);
            check.due("voted(" + i + ", 4)", x.voted(i, 4), 3);
        }
        check.due("VOTES", x.about(6), 4);
    }

    private static void images() {
        NineChairs x = Check.sitting(TEXT);
        check.due("image(-1)", x.image(-1), -1);
        check.due("image(3)", x.image(3), -1);
        check.due("back(-1)", x.back(-1), -1);
        check.due("back(3)", x.back(3), -1);
        check.due("back(0)", x.back(0), -1);
        x.speak(2, 0);
        x.sit(0, 1);
        x.sit(1, 0);
        check.due("image(1)", x.image(1), 3);
        check.due("back(0), nothing there", x.back(0), -1);
        x.speak(2, 1);
        x.found(1);
        x.crack(0, true);
        x.vote(0);
        x.enter(3);
        x.stay(30);
        x.entry(0, 0, 1);
        x.later(4);
        check.due("image(2)", x.image(2), 36);
        int[] later = facts(x);
        check.due("back(1)", x.back(1), 3);
        check.due("man(3, 0)", x.man(3, 0), 2);
        check.due("man(1, 1)", x.man(1, 1), 0);
        check.due("man(1, 3)", x.man(1, 3), 1);
        check.due("man(2, 2)", x.man(2, 2), 3);
        check.due("man(2, 5)", x.man(2, 5), 1);
        check.due("chair(0, 1)", x.chair(0, 1), 0);
        check.due("chair(1, 2)", x.chair(1, 2), 0);
        check.due("matter(0, 0)", x.matter(0, 0), 1);
        check.due("matter(1, 0)", x.matter(1, 0), 0);
        check.due("deal(0)", x.deal(0), 0);
        check.due("MINUTES", x.about(5), 3);
        check.due("VOTES", x.about(6), 0);
        check.due("SANK", x.about(12), 0);
        check.due("voted(0, 0)", x.voted(0, 0), -1);
        check.due("sat(0, 4)", x.sat(0, 4), -1);
        check.due("ENTRIES stay", x.about(7), 1);
        check.due("the TIME stays", x.about(8), 4);
        check.due("rise(0)", x.rise(0), 4);
        check.due("sat(1, 4), another way", x.sat(1, 4), 0);
        check.due("vote(0), another way", x.vote(0), 0);
        check.due("voted(0, 0), another way", x.voted(0, 0), 5);
        check.due("image(0)", x.image(0), 5);
        check.due("back(2)", x.back(2), 36);
        int[] again = facts(x);
        for (int i = 0; i < later.length; i++) {
            check.due("fact " + i + " as it was kept", again[i], later[i]);
        }
        check.due("back(0)", x.back(0), 5);
        check.due("voted(0, 0)", x.voted(0, 0), 5);
        check.due("back(1) a second time", x.back(1), 3);
        check.due("image(2) anew", x.image(2), 3);
        x.stay(5);
        check.due("back(2)", x.back(2), 3);
    }

    private static int[] facts(NineChairs x) {
        int[] facts = new int[200];
        int n = 0;
        for (int i = 0; i < 4; i++) {
            for (int what = 0; what < 6; what++) {
                facts[n++] = x.man(i, what);
                facts[n++] = x.voted(i, what);
            }
            for (int what = 0; what < 4; what++) {
                facts[n++] = x.chair(i, what);
                facts[n++] = x.matter(i, what);
            }
            facts[n++] = x.deal(i);
        }
        for (int minute = 1; minute < 30; minute++) {
            facts[n++] = x.sat(0, minute) * 64 + x.sat(1, minute);
        }
        for (int what : new int[] {5, 6, 11, 12}) {
            facts[n++] = x.about(what);
        }
        return facts;
    }

    private static void about() {
        NineChairs x = Check.sitting(TEXT);
        int[] due = {2, 4, 2, 3, 1, 0, 0, 0, 0, 0, 3, 3, 0};
        for (int what = 0; what < due.length; what++) {
            check.due("about(" + what + ")", x.about(what), due[what]);
        }
        check.due("about(13)", x.about(13), -1);
        check.due("about(-1)", x.about(-1), -1);
        x.speak(2, 0);
        x.vote(0);
        x.stay(18);
        x.entry(0, 0, 1);
        x.later(3);
        x.feed(0, 0, 0, 0, 0);
        int[] then = {2, 4, 2, 3, 1, 20, 1, 1, 3, 20, 3, 3, 3};
        for (int what = 0; what < then.length; what++) {
            check.due("about(" + what + ") then", x.about(what), then[what]);
        }
    }
}
