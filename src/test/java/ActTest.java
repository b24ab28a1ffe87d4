/** Promises 6 to 19: ACTS, the end of a MINUTE, what there is and what is kept. */
public final class ActTest {
    private static final Check check = new Check("ActTest");

    public static void main(String[] args) {
        risingAndSitting();
        speaking();
        voting();
        votersAndRules();
        entering();
        staying();
        noMoreMinutes();
        cracking();
        finding();
        tiringAndSinking();
        napping();
        dying();
        deals();
        keptVotes();
        keptSeats();
        whatThereIs();
        check.end();
    }

    private static void risingAndSitting() {
        NineChairs x = Check.sitting("chair c holds 1;chair d holds 2;man p strong 9;man q strong 9;man r strong 9;man s strong 9 door;");
        check.due("rise(0), who stands", x.rise(0), -1);
        check.due("rise(3), at the door", x.rise(3), -1);
        check.due("rise(4)", x.rise(4), -1);
        check.due("rise(-1)", x.rise(-1), -1);
        check.due("sit(0, 2)", x.sit(0, 2), -1);
        check.due("sit(0, -1)", x.sit(0, -1), -1);
        check.due("sit(4, 0)", x.sit(4, 0), -1);
        check.due("sit(-1, 0)", x.sit(-1, 0), -1);
        check.due("sit(3, 0), at the door", x.sit(3, 0), -1);
        check.due("sit(0, 0)", x.sit(0, 0), 1);
        check.due("sit(0, 1), who sits", x.sit(0, 1), -1);
        check.due("sit(1, 0), no room", x.sit(1, 0), -1);
        check.due("sit(1, 1)", x.sit(1, 1), 2);
        check.due("sit(2, 1)", x.sit(2, 1), 3);
        check.due("chair(1, 0)", x.chair(1, 0), 6);
        check.due("rise(1)", x.rise(1), 4);
        check.due("chair(1, 0)", x.chair(1, 0), 4);
        check.due("man(1, 0)", x.man(1, 0), 0);
        check.due("man(1, 1)", x.man(1, 1), -1);
        check.due("man(1, 3)", x.man(1, 3), 0);
        check.due("man(0, 3)", x.man(0, 3), 4);
        check.due("MINUTES", x.about(5), 4);
    }

    private static void speaking() {
        NineChairs x = Check.sitting("chair c holds 1;man p strong 2;man q strong 9;man r strong 9 door;matter x dies 99;matter y dies 99;");
        check.due("speak(2, 0), at the door", x.speak(2, 0), -1);
        check.due("speak(3, 0)", x.speak(3, 0), -1);
        check.due("speak(-1, 0)", x.speak(-1, 0), -1);
        check.due("speak(0, 2)", x.speak(0, 2), -1);
        check.due("speak(0, -1)", x.speak(0, -1), -1);
        check.due("speak(0, 1)", x.speak(0, 1), 1);
        check.due("matter(1, 0)", x.matter(1, 0), 1);
        check.due("matter(0, 0)", x.matter(0, 0), 0);
        check.due("man(0, 5)", x.man(0, 5), 2);
        check.due("speak(1, 1), spoken for", x.speak(1, 1), 2);
        check.due("man(0, 1), he sank", x.man(0, 1), 0);
        check.due("speak(0, 0), who sits", x.speak(0, 0), -1);
        x.crack(0, true);
        check.due("speak(0, 0), too tired", x.speak(0, 0), -1);
        check.due("speak(1, 0)", x.speak(1, 0), 3);
        check.due("man(1, 5)", x.man(1, 5), 3);
        check.due("vote(0)", x.vote(0), 0);
        check.due("speak(1, 0), lost", x.speak(1, 0), -1);
    }

    private static void voting() {
        NineChairs x = Check.sitting("chair c holds 2;man p strong 9;man q strong 9;man r strong 9;matter x dies 99;matter y dies 99;wish p x 1;wish q x -9;wish r y 5;");
        check.due("vote(0), open", x.vote(0), -1);
        check.due("vote(2)", x.vote(2), -1);
        check.due("vote(-1)", x.vote(-1), -1);
        x.speak(0, 0);
        x.sit(0, 0);
        check.due("matter(0, 2)", x.matter(0, 2), 1);
        check.due("matter(0, 3)", x.matter(0, 3), 0);
        check.due("vote(0)", x.vote(0), 1);
        check.due("MINUTES", x.about(5), 3);
        check.due("matter(0, 0)", x.matter(0, 0), 2);
        check.due("vote(0), passed", x.vote(0), -1);
        check.due("speak(1, 0), passed", x.speak(1, 0), -1);
        check.due("yes if there were a VOTE", x.matter(0, 2), 1);
        x.speak(1, 1);
        check.due("vote(1), neither", x.vote(1), 0);
        check.due("matter(1, 0)", x.matter(1, 0), 3);
        check.due("vote(1), lost", x.vote(1), -1);
        check.due("MINUTES", x.about(5), 5);
        check.due("VOTES", x.about(6), 2);
    }

    /** Two sit (one says yes, one no), one stands, one is at the door. */
    private static void rule(String e, int want) {
        NineChairs x = Check.sitting("chair c holds 2;chair d holds 1 stool;man p strong 9;man q strong 9;man r strong 9;man s strong 9 door;man t strong 9;"
                + "matter x dies 99;wish p x 1;wish q x -9;wish r x 5;wish s x 3;wish t x 2;pass " + e + ";");
        x.sit(0, 0);
        x.sit(1, 0);
        x.sit(4, 1);
        x.found(1);
        x.speak(2, 0);
        check.due("vote(0) by pass " + e, x.vote(0), want);
    }

    private static void votersAndRules() {
        rule("yes=1", 1);
        rule("no=1", 1);
        rule("sits=3", 1);
        rule("stands=1", 1);
        rule("here=4", 1);
        rule("yes>no", 0);
        rule("yes<no", 0);
        rule("2", 1);
        rule("0", 0);
        rule("1-2", 1);
        rule("5-3-2", 0);
        rule("5-(3-2)", 1);
        rule("2+3*4=14", 1);
        rule("(2+3)*4=20", 1);
        rule("3>2+1", 0);
        rule("not 0", 1);
        rule("not 7", 0);
        rule("not 1>2", 1);
        rule("not 1+1=2", 0);
        rule("1 or 0 and 0", 1);
        rule("(1 or 0) and 0", 0);
        rule("(5 and 7)=1", 1);
        rule("(5 or 0)=1", 1);
        rule("(0 or 0)=0", 1);
        rule("(2>1)+(2=2)+(1<2)=3", 1);
        rule("(not 5)=0 and (not 0)=1", 1);
        rule("(5)=5", 1);
        rule("2 and 4", 1);
        rule("not not 5 and not 0", 1);
        // 4096 * 4096 * 256 is 2 to the 32nd, and wraps to 0; half of it is below 0.
        rule("4096*4096*256", 0);
        rule("4096*4096*128<0", 1);
        rule("4096*4096*128-1>0", 1);
        rule("4096*4096*128*2=0", 1);
    }

    private static void entering() {
        NineChairs x = Check.sitting("chair c holds 1;man p strong 1 door;man q strong 9;");
        check.due("enter(1), in the hall", x.enter(1), -1);
        check.due("enter(2)", x.enter(2), -1);
        check.due("enter(-1)", x.enter(-1), -1);
        x.stay(2);
        check.due("one at the door does not tire", x.man(0, 2), 0);
        check.due("enter(0)", x.enter(0), 3);
        check.due("he sank as it was over", x.man(0, 1), 0);
        check.due("man(0, 2)", x.man(0, 2), 1);
        check.due("enter(0) again", x.enter(0), -1);
        check.due("SANK", x.about(12), 1);
    }

    private static void staying() {
        NineChairs x = Check.sitting("man p strong 30;");
        check.due("stay(0)", x.stay(0), 0);
        check.due("man(0, 2)", x.man(0, 2), 0);
        check.due("stay(-1)", x.stay(-1), -1);
        check.due("stay(201)", x.stay(201), -1);
        check.due("stay(3)", x.stay(3), 3);
        check.due("man(0, 2)", x.man(0, 2), 3);
        check.due("stay(200)", x.stay(200), 203);
        check.due("man(0, 2)", x.man(0, 2), 30);
        check.due("MINUTES", x.about(5), 203);
    }

    private static void noMoreMinutes() {
        NineChairs x = Check.sitting("chair c holds 1;man p strong 9;man q strong 9 door;man r strong 30;matter x dies 999;");
        for (int i = 1; i <= 49; i++) {
            check.due("stay(200)", x.stay(200), 200 * i);
        }
        check.due("stay(199)", x.stay(199), 9999);
        x.image(0);
        check.due("rise(0), the last MINUTE", x.rise(0), 10000);
        x.back(0);
        check.due("enter(1), the last MINUTE", x.enter(1), 10000);
        x.back(0);
        x.crack(0, true);
        x.crack(0, false);
        check.due("sit(0, 0), the last MINUTE", x.sit(0, 0), 10000);
        x.back(0);
        check.due("stay(2)", x.stay(2), -1);
        check.due("stay(1)", x.stay(1), 10000);
        check.due("stay(1)", x.stay(1), -1);
        check.due("stay(0)", x.stay(0), 10000);
        check.due("rise(0)", x.rise(0), -1);
        check.due("man(0, 0)", x.man(0, 0), 1);
        check.due("enter(1)", x.enter(1), -1);
        check.due("man(1, 0)", x.man(1, 0), 2);
        x.crack(0, true);
        x.crack(0, false);
        check.due("sit(0, 0)", x.sit(0, 0), -1);
        check.due("speak(2, 0)", x.speak(2, 0), -1);
        check.due("vote(0)", x.vote(0), -1);
        check.due("MINUTES", x.about(5), 10000);
    }

    private static void cracking() {
        NineChairs x = Check.sitting("chair c holds 2;chair d holds 1;man p strong 9;man q strong 9;");
        check.due("crack(2, true)", x.crack(2, true), -1);
        check.due("crack(-1, true)", x.crack(-1, true), -1);
        check.due("crack(0, false), whole", x.crack(0, false), -1);
        x.sit(0, 0);
        x.sit(1, 0);
        check.due("SEATS", x.about(11), 3);
        check.due("crack(0, true)", x.crack(0, true), 2);
        check.due("MINUTES", x.about(5), 2);
        check.due("SEATS", x.about(11), 1);
        check.due("chair(0, 0)", x.chair(0, 0), 0);
        check.due("chair(0, 1)", x.chair(0, 1), 1);
        check.due("chair(1, 1)", x.chair(1, 1), 0);
        check.due("man(0, 0)", x.man(0, 0), 0);
        check.due("man(0, 3)", x.man(0, 3), 0);
        check.due("crack(0, true) again", x.crack(0, true), -1);
        check.due("sit(0, 0), broken", x.sit(0, 0), -1);
        check.due("crack(0, false)", x.crack(0, false), 0);
        check.due("chair(0, 1)", x.chair(0, 1), 0);
        check.due("sit(0, 0)", x.sit(0, 0), 3);
        check.due("crack(1, true), of nobody", x.crack(1, true), 0);
    }

    private static void finding() {
        NineChairs x = Check.sitting("chair c holds 1;chair d holds 2 stool;man p strong 9;man q strong 9;matter x dies 99;wish p x 3;");
        check.due("found(0), no stool", x.found(0), false);
        check.due("found(2)", x.found(2), false);
        check.due("found(-1)", x.found(-1), false);
        x.sit(0, 1);
        check.due("matter(0, 2)", x.matter(0, 2), 1);
        check.due("chair(1, 2)", x.chair(1, 2), 0);
        check.due("found(1)", x.found(1), true);
        check.due("found(1) again", x.found(1), false);
        check.due("chair(1, 2)", x.chair(1, 2), 1);
        check.due("chair(0, 2)", x.chair(0, 2), 0);
        check.due("he sits on", x.man(0, 1), 1);
        check.due("but has no voice", x.matter(0, 2), 0);
        check.due("SEATS", x.about(11), 1);
        check.due("sit(1, 1), a stool that was found", x.sit(1, 1), 2);
        x.crack(1, true);
        x.crack(1, false);
        check.due("it is found yet", x.chair(1, 2), 1);
        check.due("SEATS", x.about(11), 1);
        check.due("MINUTES", x.about(5), 2);
    }

    private static void tiringAndSinking() {
        NineChairs x = Check.sitting("chair c holds 1;chair d holds 1;man p strong 3;man q strong 3;man r strong 3;man s strong 4;");
        x.crack(0, true);
        x.stay(2);
        check.due("man(0, 2)", x.man(0, 2), 2);
        check.due("SANK", x.about(12), 0);
        x.stay(1);
        check.due("the first sinks", x.man(0, 1), 1);
        check.due("no place for the second", x.man(1, 1), -1);
        check.due("man(1, 2)", x.man(1, 2), 3);
        check.due("man(0, 3)", x.man(0, 3), 0);
        check.due("man(0, 2)", x.man(0, 2), 3);
        check.due("SANK", x.about(12), 1);
        x.crack(0, false);
        check.due("none sinks before the MINUTE is over", x.man(1, 1), -1);
        x.stay(1);
        check.due("the second sinks", x.man(1, 1), 0);
        check.due("as strong at most", x.man(2, 2), 3);
        check.due("man(0, 2)", x.man(0, 2), 1);
        check.due("man(0, 3)", x.man(0, 3), 1);
        x.stay(1);
        check.due("0 at least", x.man(0, 2), 0);
        check.due("SANK", x.about(12), 2);
        check.due("rise(0)", x.rise(0), 6);
        check.due("the third sinks in his place", x.man(2, 1), 1);
        check.due("man(0, 2)", x.man(0, 2), 1);
        check.due("SANK", x.about(12), 3);
    }

    private static void napping() {
        NineChairs x = Check.sitting("chair c holds 2;man p strong 9;man q strong 9;matter x dies 99;wish p x 5;wish q x -1;nap 2;");
        x.speak(1, 0);
        x.sit(0, 0);
        check.due("man(0, 4)", x.man(0, 4), 0);
        check.due("matter(0, 2)", x.matter(0, 2), 1);
        x.sit(1, 0);
        check.due("man(0, 4)", x.man(0, 4), 1);
        check.due("man(1, 4)", x.man(1, 4), 0);
        check.due("matter(0, 2)", x.matter(0, 2), 0);
        check.due("matter(0, 3)", x.matter(0, 3), 1);
        x.rise(0);
        check.due("man(0, 4)", x.man(0, 4), 0);
        x.sit(0, 0);
        check.due("matter(0, 2)", x.matter(0, 2), 1);
        check.due("matter(0, 3)", x.matter(0, 3), 0);
        x.stay(1);
        check.due("vote(0), all nap", x.vote(0), 0);
        check.due("who naps does not stand", x.voted(0, 4), 0);
    }

    private static void dying() {
        NineChairs x = Check.sitting("chair c holds 1;man p strong 9;matter x dies 3;matter y dies 3;matter z dies 3;wish p x 1;wish p y 1;");
        x.speak(0, 0);
        x.sit(0, 0);
        check.due("vote(0) in the MINUTE it dies", x.vote(0), 1);
        check.due("matter(0, 0)", x.matter(0, 0), 2);
        check.due("matter(1, 0)", x.matter(1, 0), 3);
        x.rise(0);
        check.due("speak(0, 2)", x.speak(0, 2), -1);
        NineChairs y = Check.sitting("man p strong 9;matter x dies 1;");
        check.due("speak(0, 0)", y.speak(0, 0), 1);
        check.due("spoken for, and lost", y.matter(0, 0), 3);
        check.due("man(0, 5)", y.man(0, 5), 1);
        check.due("vote(0)", y.vote(0), -1);
    }

    private static void deals() {
        NineChairs x = Check.sitting("chair c holds 2;man p strong 20;man q strong 20;man r strong 20;matter x dies 99;matter y dies 99;matter z dies 99;"
                + "wish p x -5;deal p x for q y;deal q z for p y;deal r z for q x;deal p y for r z;");
        check.due("deal(4)", x.deal(4), -1);
        check.due("deal(-1)", x.deal(-1), -1);
        check.due("deal(0)", x.deal(0), 0);
        x.speak(0, 0);
        x.sit(0, 0);
        check.due("matter(0, 3)", x.matter(0, 3), 1);
        x.speak(2, 1);
        check.due("deal(0), another has spoken", x.deal(0), 0);
        x.speak(1, 1);
        check.due("deal(0)", x.deal(0), 1);
        check.due("deal(1)", x.deal(1), 0);
        check.due("matter(0, 2)", x.matter(0, 2), 1);
        check.due("matter(0, 3)", x.matter(0, 3), 0);
        check.due("vote(0)", x.vote(0), 1);
        check.due("deal(0), kept", x.deal(0), 2);
        x.rise(0);
        x.speak(0, 1);
        check.due("deal(1)", x.deal(1), 1);
        x.speak(0, 2);
        check.due("vote(2), q stands", x.vote(2), 0);
        check.due("deal(1), broken", x.deal(1), 3);
        check.due("deal(2), was not due", x.deal(2), 0);
        check.due("vote(1)", x.vote(1), 0);
        check.due("deal(3)", x.deal(3), 0);
        check.due("deal(0)", x.deal(0), 2);
        NineChairs y = Check.sitting("man p strong 20;man q strong 20;matter x dies 99;matter y dies 99;deal p x for q y;");
        y.speak(0, 0);
        y.vote(0);
        check.due("not due at the VOTE", y.deal(0), 0);
        y.speak(1, 1);
        check.due("due behind it", y.deal(0), 1);
    }

    private static void keptVotes() {
        NineChairs x = Check.sitting("chair c holds 2;chair d holds 2;man p strong 20;man q strong 20;man r strong 20;man s strong 20 door;man t strong 20;"
                + "matter x dies 99;matter y dies 99;wish p y 5;wish q y -1;wish p x -2;");
        x.speak(2, 1);
        x.sit(0, 0);
        x.sit(1, 0);
        x.sit(4, 1);
        check.due("vote(1)", x.vote(1), 0);
        int[] first = {5, 1, 1, 2, 12, 0};
        for (int what = 0; what < 6; what++) {
            check.due("voted(0, " + what + ")", x.voted(0, what), first[what]);
        }
        check.due("voted(0, 6)", x.voted(0, 6), -1);
        check.due("voted(0, -1)", x.voted(0, -1), -1);
        check.due("voted(-1, 0)", x.voted(-1, 0), -1);
        check.due("voted(1, 0)", x.voted(1, 0), -1);
        x.speak(2, 0);
        x.rise(1);
        x.vote(0);
        int[] second = {8, 0, 0, 1, 14, 0};
        for (int what = 0; what < 6; what++) {
            check.due("voted(1, " + what + ")", x.voted(1, what), second[what]);
        }
        check.due("voted(0, 0) yet", x.voted(0, 0), 5);
    }

    private static void keptSeats() {
        NineChairs x = Check.sitting("chair c holds 2;chair d holds 1;man p strong 30;man q strong 2;man r strong 30;");
        x.sit(0, 0);
        x.sit(2, 1);
        check.due("sat(0, 1)", x.sat(0, 1), 1);
        check.due("sat(0, 2), with one who sank", x.sat(0, 2), 3);
        check.due("sat(1, 1)", x.sat(1, 1), 0);
        check.due("sat(1, 2)", x.sat(1, 2), 4);
        check.due("sat(0, 3), not over", x.sat(0, 3), -1);
        check.due("sat(0, 0)", x.sat(0, 0), -1);
        check.due("sat(2, 1)", x.sat(2, 1), -1);
        check.due("sat(-1, 1)", x.sat(-1, 1), -1);
        x.crack(0, true);
        check.due("sat(0, 2), as it was", x.sat(0, 2), 3);
        x.stay(197);
        check.due("sat(1, 199)", x.sat(1, 199), 4);
        x.rise(2);
        check.due("sat(1, 200), by another, who sank", x.sat(1, 200), 1);
        x.stay(2);
        check.due("sat(1, 201)", x.sat(1, 201), -1);
        check.due("sat(1, 200)", x.sat(1, 200), 1);
    }

    private static void whatThereIs() {
        NineChairs x = Check.sitting("chair c holds 2;man p strong 3;man q strong 9 door;matter x dies 99;wish p x 5;wish q x -7;");
        for (int what = -1; what <= 6; what += 7) {
            check.due("man(0, " + what + ")", x.man(0, what), -2);
        }
        check.due("man(2, 0)", x.man(2, 0), -2);
        check.due("man(-1, 0)", x.man(-1, 0), -2);
        check.due("man(1, 0)", x.man(1, 0), 2);
        check.due("man(1, 1), at the door", x.man(1, 1), -1);
        check.due("chair(0, 3)", x.chair(0, 3), -2);
        check.due("chair(0, -1)", x.chair(0, -1), -2);
        check.due("chair(1, 0)", x.chair(1, 0), -2);
        check.due("chair(-1, 0)", x.chair(-1, 0), -2);
        check.due("matter(0, 1)", x.matter(0, 1), -2);
        check.due("matter(0, 4)", x.matter(0, 4), -1000000);
        check.due("matter(0, -1)", x.matter(0, -1), -1000000);
        check.due("matter(1, 0)", x.matter(1, 0), -1000000);
        check.due("matter(-1, 0)", x.matter(-1, 0), -1000000);
    }
}
