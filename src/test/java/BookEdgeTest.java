/** Terms 4 and promises 25 to 31: a test of its own for each sentence that names a boundary case. */
public final class BookEdgeTest {
    private static final Check check = new Check("BookEdgeTest");
    private static final int MIN = Integer.MIN_VALUE;
    private static final int MAX = Integer.MAX_VALUE;
    private static final String TEXT =
            "chair c holds 2;chair d holds 1 stool;man p strong 20;man q strong 20;man r strong 20;man s strong 20;man t strong 20 door;"
            + "matter x dies 99;matter y dies 99;wish p x 1;wish q x -1;wish s x 1;wish t x -1;deal p y for q x;deal p y for s x;nap 9;pass yes=no;";

    public static void main(String[] args) {
        run().end();
    }

    static Check run() {
        check.sentence("The first 100 VOTES are kept (by number, from 0 on)", BookEdgeTest::votesKept);
        check.sentence("the MINUTE (its number, from 1)", BookEdgeTest::minuteOfVote);
        check.sentence("who STOOD (or was at the door)", BookEdgeTest::stoodOrDoor);
        check.sentence("at the end of the first 200 MINUTES is kept", BookEdgeTest::seatsKept);
        check.sentence("ENTRIES, 40 at most", BookEdgeTest::fortyEntries);
        check.sentence("are TOLD at a TIME (0 at first, goes on)", BookEdgeTest::timeAtFirst);
        check.sentence("UNTOLD at a later one or the same", BookEdgeTest::untoldAtTheSame);
        check.sentence("in a VOTE (0 .. 99)", BookEdgeTest::entryVote);
        check.sentence("a MAN said yes, no or nothing (1, -1, 0)", BookEdgeTest::entrySaid);
        check.sentence("As known at k those count that were TOLD at k or before", BookEdgeTest::toldAtOrBefore);
        check.sentence("not UNTOLD at k or before", BookEdgeTest::untoldAtOrBefore);
        check.sentence("FALSE: it was not so", BookEdgeTest::whatIsFalse);
        check.sentence("STOOD: it says yes or no of one who STOOD then (or was at the door)", BookEdgeTest::whatIsStood);
        check.sentence("both of VOTES that are kept", BookEdgeTest::ofKeptVotes);
        check.sentence("25: its number; NONE, doing nothing, if one can't be, or there are 40", BookEdgeTest::entryRefused);
        check.sentence("26: false if it is so already, or there is none such", BookEdgeTest::untellRefused);
        check.sentence("27: So much later (0 .. 1000): the TIME", BookEdgeTest::laterBounds);
        check.sentence("27: NONE, doing nothing, for another number", BookEdgeTest::laterRefused);
        check.sentence("27: or if it would be above 100,000", BookEdgeTest::laterTooLate);
        check.sentence("28: the first FALSE one (2; NONE)", BookEdgeTest::firstFalse);
        check.sentence("28: NONE for another what", BookEdgeTest::judgeRefused);
        check.sentence("29: a BOX 0 .. 2: the MINUTES; NONE if there is none such", BookEdgeTest::boxes);
        check.sentence("29: All of the MEN, CHAIRS, MATTERS, DEALS, MINUTES and what is kept is kept", BookEdgeTest::imageKeepsAll);
        check.sentence("30: All is as it was kept: the MINUTES", BookEdgeTest::backAgain);
        check.sentence("30: NONE, doing nothing, if nothing was", BookEdgeTest::backRefused);
        check.sentence("31: about, what 0 .. 12", BookEdgeTest::aboutAtMost);
        check.sentence("31: NONE for another what", BookEdgeTest::aboutRefused);
        return check;
    }

    /** p says yes and q no, r says nothing, s STANDS, t is at the door. */
    private static NineChairs voted() {
        NineChairs x = begun();
        goOn(x);
        return x;
    }

    private static NineChairs begun() {
        return Check.sitting(TEXT);
    }

    private static void goOn(NineChairs x) {
        x.sit(0, 0);
        x.sit(1, 0);
        x.sit(2, 1);
        x.speak(3, 0);
        x.vote(0);
    }

    // ---- what is kept

    private static void votesKept() {
        NineChairs x = Check.sitting("man p strong 9;matter w dies 99;matter x dies 99;matter y dies 99;matter z dies 99;pass stands;");
        for (int matter = 0; matter < 4; matter++) {
            x.speak(0, 3 - matter);
            check.due("VOTES", x.about(6), matter);
            check.due("VOTE " + matter + " is not yet", x.voted(matter, 1), -1);
            x.vote(3 - matter);
            check.due("VOTE " + matter, x.voted(matter, 1), 3 - matter);
        }
        check.due("the first yet", x.voted(0, 1), 3);
        check.due("no fifth", x.voted(4, 1), -1);
        check.due("VOTES in all", x.about(6), 4);
    }

    private static void minuteOfVote() {
        NineChairs x = Check.sitting("man p strong 9;matter x dies 999;matter y dies 300;");
        x.speak(0, 0);
        x.vote(0);
        check.due("the second MINUTE", x.voted(0, 0), 2);
        x.speak(0, 1);
        x.stay(200);
        x.stay(96);
        x.vote(1);
        check.due("the MINUTE it dies", x.voted(1, 0), 300);
        check.due("MINUTES", x.about(5), 300);
    }

    private static void stoodOrDoor() {
        NineChairs x = voted();
        check.due("s and t", x.voted(0, 4), 24);
        NineChairs y = Check.sitting("chair c holds 1;man p strong 2;matter x dies 9;");
        y.speak(0, 0);
        y.vote(0);
        check.due("he sank", y.man(0, 0), 1);
        check.due("but he STOOD in the VOTE", y.voted(0, 4), 1);
    }

    private static void seatsKept() {
        NineChairs x = Check.sitting("chair c holds 1;man p strong 9;");
        x.sit(0, 0);
        x.stay(198);
        x.rise(0);
        check.due("MINUTE 199", x.sat(0, 199), 1);
        check.due("MINUTE 200", x.sat(0, 200), 0);
        x.sit(0, 0);
        check.due("MINUTE 201", x.sat(0, 201), -1);
        check.due("MINUTE 200 yet", x.sat(0, 200), 0);
        check.due("MINUTE 1 yet", x.sat(0, 1), 1);
        x.stay(200);
        check.due("MINUTE 1 yet", x.sat(0, 1), 1);
    }

    // ---- ENTRIES

    private static void fortyEntries() {
        NineChairs x = voted();
        for (int i = 0; i < 40; i++) {
            check.due("ENTRY " + i, x.entry(0, 0, -1), i);
        }
        check.due("one more", x.entry(0, 0, -1), -1);
        check.due("ENTRIES", x.about(7), 40);
        check.due("FALSE", x.judge(0, 0), 40);
        x.untell(0);
        check.due("one more, the first being UNTOLD", x.entry(0, 0, -1), -1);
        check.due("ENTRIES", x.about(7), 40);
        check.due("FALSE", x.judge(0, 0), 39);
        check.due("the last", x.untell(39), true);
    }

    private static void timeAtFirst() {
        NineChairs x = voted();
        check.due("the TIME", x.about(8), 0);
        x.entry(0, 0, -1);
        check.due("before 0", x.judge(0, -1), 0);
        check.due("at 0", x.judge(0, 0), 1);
        x.stay(5);
        check.due("MINUTES are no TIME", x.about(8), 0);
        check.due("it goes on", x.later(2), 2);
        check.due("it goes on", x.later(3), 5);
    }

    private static void untoldAtTheSame() {
        NineChairs x = voted();
        x.later(3);
        x.entry(0, 0, -1);
        x.entry(0, 0, -1);
        x.untell(0);
        check.due("before", x.judge(0, 2), 0);
        check.due("at it, the second alone", x.judge(0, 3), 1);
        check.due("the first FALSE one", x.judge(2, 3), 1);
        x.later(1);
        x.untell(1);
        check.due("at the one before", x.judge(0, 3), 1);
        check.due("at a later one", x.judge(0, 4), 0);
    }

    private static void entryVote() {
        NineChairs x = voted();
        check.due("-1", x.entry(-1, 0, 1), -1);
        check.due("0", x.entry(0, 0, 1), 0);
        check.due("99", x.entry(99, 0, 1), 1);
        check.due("100", x.entry(100, 0, 1), -1);
        check.due("MAX", x.entry(MAX, 0, 1), -1);
        check.due("MIN", x.entry(MIN, 0, 1), -1);
        check.due("ENTRIES", x.about(7), 2);
    }

    private static void entrySaid() {
        NineChairs x = voted();
        check.due("-2", x.entry(0, 0, -2), -1);
        check.due("-1", x.entry(0, 0, -1), 0);
        check.due("0", x.entry(0, 0, 0), 1);
        check.due("1", x.entry(0, 0, 1), 2);
        check.due("2", x.entry(0, 0, 2), -1);
        check.due("MAX", x.entry(0, 0, MAX), -1);
        check.due("MIN", x.entry(0, 0, MIN), -1);
        check.due("ENTRIES", x.about(7), 3);
        check.due("FALSE, all but the last", x.judge(0, 0), 2);
    }

    private static void toldAtOrBefore() {
        NineChairs x = voted();
        x.later(10);
        x.entry(0, 0, -1);
        x.later(1000);
        x.entry(0, 1, 1);
        check.due("k 9", x.judge(0, 9), 0);
        check.due("k 10", x.judge(0, 10), 1);
        check.due("k 1009", x.judge(0, 1009), 1);
        check.due("k 1010", x.judge(0, 1010), 2);
        check.due("k beyond the TIME", x.judge(0, MAX), 2);
        check.due("k below 0", x.judge(0, -1), 0);
        check.due("k far below 0", x.judge(0, MIN), 0);
    }

    private static void untoldAtOrBefore() {
        NineChairs x = voted();
        x.entry(0, 0, -1);
        x.later(10);
        x.untell(0);
        x.later(10);
        check.due("k 9", x.judge(0, 9), 1);
        check.due("k 10", x.judge(0, 10), 0);
        check.due("k 11", x.judge(0, 11), 0);
        check.due("k beyond the TIME", x.judge(0, MAX), 0);
        check.due("k 0", x.judge(0, 0), 1);
    }

    private static void whatIsFalse() {
        int[] truth = {1, -1, 0, 0, 0};
        for (int man = 0; man < 5; man++) {
            for (int said = -1; said <= 1; said++) {
                NineChairs x = voted();
                x.entry(0, man, said);
                check.due("MAN " + man + " said " + said, x.judge(0, 0), said == truth[man] ? 0 : 1);
            }
        }
    }

    private static void whatIsStood() {
        for (int man = 0; man < 5; man++) {
            for (int said = -1; said <= 1; said++) {
                NineChairs x = voted();
                x.entry(0, man, said);
                check.due("MAN " + man + " said " + said, x.judge(1, 0), man >= 3 && said != 0 ? 1 : 0);
            }
        }
        NineChairs y = voted();
        y.entry(0, 3, 1);
        y.rise(0);
        y.sit(3, 0);
        check.due("he SITS now", y.man(3, 0), 1);
        check.due("but he STOOD then", y.judge(1, 0), 1);
        y.entry(0, 0, 1);
        check.due("one STANDS now, who SAT then", y.judge(1, 0), 1);
    }

    private static void ofKeptVotes() {
        NineChairs x = voted();
        x.entry(1, 3, 1);
        x.entry(99, 3, 1);
        check.due("FALSE of none that is kept", x.judge(0, 0), 0);
        check.due("STOOD of none that is kept", x.judge(1, 0), 0);
        check.due("the first of none that is kept", x.judge(2, 0), -1);
        x.image(0);
        x.speak(3, 1);
        x.vote(1);
        check.due("FALSE as it is kept", x.judge(0, 0), 1);
        check.due("STOOD as it is kept", x.judge(1, 0), 1);
        check.due("the first as it is kept", x.judge(2, 0), 0);
        x.back(0);
        check.due("FALSE as it is kept no more", x.judge(0, 0), 0);
    }

    // ---- promises 25 to 28

    private static void entryRefused() {
        NineChairs x = voted();
        int[] none = {5, 6, -1, MIN, MAX};
        for (int man : none) {
            check.due("entry(0, " + man + ", 1)", x.entry(0, man, 1), -1);
        }
        check.due("of VOTE 100", x.entry(100, 0, 1), -1);
        check.due("said 2", x.entry(0, 0, 2), -1);
        check.same("behind these", x, voted());
        check.due("the last MAN", x.entry(0, 4, 1), 0);
        check.due("its number", x.entry(0, 4, 1), 1);
        NineChairs y = new NineChairs();
        check.due("in an empty HALL", y.entry(0, 0, 1), -1);
    }

    private static void untellRefused() {
        NineChairs x = begun();
        x.entry(0, 0, 1);
        x.entry(0, 0, 1);
        x.entry(0, 0, 1);
        Check.feed(x, TEXT);
        x.hall();
        goOn(x);
        check.due("none is there", x.untell(0), false);
        x.entry(0, 0, -1);
        x.entry(0, 0, -1);
        int[] none = {2, 39, 40, -1, MIN, MAX};
        for (int entry : none) {
            check.due("untell(" + entry + ")", x.untell(entry), false);
        }
        check.due("FALSE", x.judge(0, 0), 2);
        check.due("the last", x.untell(1), true);
        x.later(5);
        check.due("so already", x.untell(1), false);
        check.due("its TIME is as it was", x.judge(0, 4), 1);
        check.due("the first", x.untell(0), true);
        check.due("FALSE", x.judge(0, 5), 0);
    }

    private static void laterBounds() {
        NineChairs x = new NineChairs();
        check.due("later(0)", x.later(0), 0);
        check.due("later(1)", x.later(1), 1);
        check.due("later(1000)", x.later(1000), 1001);
        check.due("the TIME", x.about(8), 1001);
    }

    private static void laterRefused() {
        NineChairs x = new NineChairs();
        x.later(5);
        int[] none = {-1, 1001, -5, MIN, MAX};
        for (int by : none) {
            check.due("later(" + by + ")", x.later(by), -1);
        }
        check.due("the TIME", x.about(8), 5);
    }

    private static void laterTooLate() {
        NineChairs x = new NineChairs();
        for (int i = 1; i < 100; i++) {
            x.later(1000);
        }
        x.later(1);
        check.due("100,001", x.later(1000), -1);
        check.due("the TIME", x.about(8), 99001);
        check.due("100,000", x.later(999), 100000);
        check.due("one later", x.later(1), -1);
        check.due("none later", x.later(0), 100000);
        check.due("the TIME", x.about(8), 100000);
    }

    private static void firstFalse() {
        NineChairs x = voted();
        check.due("of none", x.judge(2, 0), -1);
        x.entry(0, 0, 1);
        check.due("of none that is FALSE", x.judge(2, 0), -1);
        x.entry(0, 1, 1);
        x.entry(0, 0, 0);
        check.due("the first of two", x.judge(2, 0), 1);
        check.due("of none that counts", x.judge(2, -1), -1);
        x.later(1);
        x.untell(1);
        check.due("the other", x.judge(2, 1), 2);
        check.due("at the TIME before", x.judge(2, 0), 1);
        NineChairs y = voted();
        y.entry(0, 0, 0);
        check.due("the very first", y.judge(2, 0), 0);
    }

    private static void judgeRefused() {
        NineChairs x = voted();
        x.entry(0, 0, -1);
        int[] whats = {3, -1, MIN, MAX};
        for (int what : whats) {
            check.due("judge(" + what + ", 0)", x.judge(what, 0), -1);
        }
    }

    // ---- promises 29 to 31

    private static void boxes() {
        NineChairs x = voted();
        int[] none = {3, -1, MIN, MAX};
        for (int box : none) {
            check.due("image(" + box + ")", x.image(box), -1);
            check.due("back(" + box + ")", x.back(box), -1);
        }
        for (int box = 0; box < 3; box++) {
            check.due("image(" + box + ")", x.image(box), 5 + box);
            x.stay(1);
        }
        for (int box = 2; box >= 0; box--) {
            check.due("back(" + box + ")", x.back(box), 5 + box);
            check.due("MINUTES", x.about(5), 5 + box);
        }
        NineChairs y = new NineChairs();
        check.due("of an empty HALL", y.image(2), 0);
        check.due("back in it", y.back(2), 0);
    }

    private static void imageKeepsAll() {
        NineChairs x = begun();
        x.image(0);
        goOn(x);
        x.image(1);
        // Another way from the beginning on, by which every row has other numbers.
        x.back(0);
        check.same("back, where it began", x, begun());
        x.sit(3, 1);
        x.sit(2, 0);
        x.enter(4);
        x.speak(4, 1);
        x.speak(0, 0);
        x.vote(1);
        x.vote(0);
        x.stay(30);
        x.crack(0, true);
        x.found(1);
        check.due("some SANK", x.about(12) > 0, true);
        check.due("back(1)", x.back(1), 5);
        check.same("back, where the one way ended", x, voted());
        // The one way goes on, with the DEAL that is DUE.
        check.due("the DEAL is DUE", x.deal(1), 1);
        x.rise(0);
        x.speak(0, 1);
        x.vote(1);
        check.due("the DEAL is BROKEN", x.deal(1), 3);
        x.back(1);
        check.same("back a second time", x, voted());
    }

    private static void backAgain() {
        NineChairs x = voted();
        x.image(0);
        x.stay(40);
        check.due("back(0)", x.back(0), 5);
        x.stay(1);
        check.due("back(0) again", x.back(0), 5);
        check.same("a second time", x, voted());
        x.stay(1);
        check.due("image(0) over the old one", x.image(0), 6);
        x.stay(1);
        check.due("back(0), to the new one", x.back(0), 6);
        // An image of what was gone back to is of its own.
        x.image(1);
        x.stay(1);
        x.image(0);
        check.due("back(1)", x.back(1), 6);
        check.due("back(0)", x.back(0), 7);
        // What is no part of an image stays as it is.
        x.later(4);
        x.entry(0, 0, 1);
        x.feed(0, 0, 0, 0, 0);
        x.back(1);
        check.due("the TIME", x.about(8), 4);
        check.due("ENTRIES", x.about(7), 1);
        check.due("bytes", x.about(9), 20);
    }

    private static void backRefused() {
        NineChairs x = voted();
        x.image(1);
        check.due("back(0)", x.back(0), -1);
        check.due("back(2)", x.back(2), -1);
        check.same("behind these", x, voted());
        check.due("in a new object", new NineChairs().back(0), -1);
    }

    private static void aboutAtMost() {
        StringBuilder all = new StringBuilder();
        for (int i = 0; i < 6; i++) {
            all.append("chair ").append((char) ('a' + i)).append(" holds 2;");
            all.append("man ").append((char) ('a' + i)).append(" strong 1;");
        }
        for (int i = 0; i < 4; i++) {
            all.append("matter ").append((char) ('a' + i)).append(" dies 999;");
        }
        for (int i = 0; i < 24; i++) {
            all.append("wish ").append((char) ('a' + i / 4)).append(' ').append((char) ('a' + i % 4)).append(" 1;");
        }
        all.append("deal a a for b b;".repeat(4)).append("pass 1").append("+1".repeat(39)).append(';');
        NineChairs x = Check.sitting(all.toString());
        int[] first = {6, 6, 4, 24, 4, 0, 0, 0, 0, 0, 40, 12, 0};
        for (int what = 0; what <= 12; what++) {
            check.due("about(" + what + ")", x.about(what), first[what]);
        }
        x.speak(0, 0);
        x.vote(0);
        x.entry(0, 0, 1);
        x.later(1000);
        x.feed(0, 0, 0, 0, 0);
        int[] then = {6, 6, 4, 24, 4, 2, 1, 1, 1000, 20, 40, 12, 6};
        for (int what = 0; what <= 12; what++) {
            check.due("about(" + what + ") then", x.about(what), then[what]);
        }
    }

    private static void aboutRefused() {
        NineChairs x = voted();
        int[] whats = {13, -1, MIN, MAX};
        for (int what : whats) {
            check.due("about(" + what + ")", x.about(what), -1);
        }
    }
}
