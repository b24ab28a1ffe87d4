/** Terms 3 and promises 20 to 24: a test of its own for each sentence that names a boundary case. */
public final class PlanEdgeTest {
    private static final Check check = new Check("PlanEdgeTest");
    private static final int MIN = Integer.MIN_VALUE;
    private static final int MAX = Integer.MAX_VALUE;
    private static final int GAP = -1000000;

    public static void main(String[] args) {
        run().end();
    }

    static Check run() {
        plans();
        check.sentence("FEWEST: the least number of seats (0 .. as many as there are MEN in the hall)", PlanEdgeTest::leastSeats);
        check.sentence("by which BEST of T is no less than with as many as there are MEN in the hall", PlanEdgeTest::noLess);
        check.sentence("with n of them to begin with the first n (by number) who SIT on SEATS now SIT, all others STAND", PlanEdgeTest::firstSit);
        check.sentence("LET IN: BEST with a MAN from the door in the hall (he STANDS) less BEST", PlanEdgeTest::letIn);
        check.sentence("FLOOR of MEN (1 .. 3 in the hall", PlanEdgeTest::floorOfHowMany);
        check.sentence("as bits", PlanEdgeTest::floorBits);
        check.sentence("strong 15 at most)", PlanEdgeTest::floorStrong);
        check.sentence("who STANDS then, and is less TIRED than he is strong as it begins", PlanEdgeTest::floorTired);
        check.sentence("all others of them SIT then", PlanEdgeTest::floorOthersSit);
        check.sentence("200 if they can that long", PlanEdgeTest::floorTwoHundred);
        check.sentence("COULD: of all sets of told MEN", PlanEdgeTest::couldSets);
        check.sentence("as many as there are SEATS at most", PlanEdgeTest::couldSeats);
        check.sentence("by wishes alone", PlanEdgeTest::couldWishes);
        check.sentence("has so many yes and so many no", PlanEdgeTest::couldCounts);
        check.sentence("20: NONE for another T or what", PlanEdgeTest::bestRefused);
        check.sentence("21: NONE for another T", PlanEdgeTest::fewestRefused);
        check.sentence("22: GAP if he is not at the door, or for another T", PlanEdgeTest::letsRefused);
        check.sentence("23: NONE if one can't be", PlanEdgeTest::floorRefused);
        check.sentence("24: NONE if there is no such MATTER, yes or no is below 0, or for another what", PlanEdgeTest::couldRefused);
        check.sentence("24: (1, 2: 0 if there is no set)", PlanEdgeTest::couldNoSet);
        return check;
    }

    private static void plans() {
        check.sentence("PLANS of T MINUTES (0 .. 40)", PlanEdgeTest::planTime);
        check.sentence("from what there is now", PlanEdgeTest::fromNow);
        check.sentence("in a hall where nobody tires", PlanEdgeTest::nobodyTires);
        check.sentence("sinks or naps", PlanEdgeTest::nobodySinksOrNaps);
        check.sentence("T ACTS at most, one a MINUTE", PlanEdgeTest::actsAtMost);
        check.sentence("one who STANDS sits down on any seat that is free", PlanEdgeTest::freeSeats);
        check.sentence("one who STANDS speaks", PlanEdgeTest::whoStandsSpeaks);
        check.sentence("a VOTE", PlanEdgeTest::votesInPlans);
        check.sentence("MATTERS die as told", PlanEdgeTest::dieAsTold);
        check.sentence("all else as it is now", PlanEdgeTest::dealsInPlans);
        check.sentence("who is at the door stays there", PlanEdgeTest::doorStays);
        check.sentence("SEATS: places of CHAIRS that are whole, stools that were FOUND left out", PlanEdgeTest::seats);
        check.sentence("they are taken by those who SIT on them now", PlanEdgeTest::taken);
        check.sentence("(who SITS elsewhere STANDS, to begin with)", PlanEdgeTest::elsewhere);
        check.sentence("The WORTH of a PLAN: wishes of all MEN (at the door, too)", PlanEdgeTest::worthOfAll);
        check.sentence("of MATTERS PASSED by it, together", PlanEdgeTest::worthTogether);
        check.sentence("BEST: the most WORTH (0, of no ACT, at least)", PlanEdgeTest::noActAtLeast);
        check.sentence("SOONEST: the fewest ACTS by which it comes", PlanEdgeTest::soonest);
    }

    private static void bestOf(NineChairs x, int time, int worth, int acts) {
        check.due("best(" + time + ", 0)", x.best(time, 0), worth);
        check.due("best(" + time + ", 1)", x.best(time, 1), acts);
    }

    // ---- PLANS

    private static void planTime() {
        NineChairs x = Check.sitting("man p strong 9;matter x dies 999;wish p x 3;pass stands;");
        bestOf(x, 0, 0, 0);
        bestOf(x, 1, 0, 0);
        bestOf(x, 2, 3, 2);
        bestOf(x, 40, 3, 2);
        bestOf(x, 41, -1, -1);
        bestOf(x, -1, -1, -1);
        x.speak(0, 0);
        bestOf(x, 0, 0, 0);
        bestOf(x, 1, 3, 1);
    }

    private static void fromNow() {
        NineChairs x = Check.sitting("chair c holds 1;man p strong 9;man q strong 9;matter x dies 99;matter y dies 99;wish p x 3;wish p y 2;pass yes;");
        bestOf(x, 5, 5, 5);
        x.speak(1, 0);
        bestOf(x, 4, 5, 4);
        bestOf(x, 3, 3, 2);
        x.sit(0, 0);
        bestOf(x, 1, 3, 1);
        x.vote(0);
        bestOf(x, 40, 2, 2);
        check.due("PLANS take no MINUTE", x.about(5), 3);
    }

    private static void nobodyTires() {
        NineChairs x = Check.sitting("man p strong 1;matter x dies 99;wish p x 3;pass stands;");
        x.stay(5);
        check.due("as TIRED as he is strong", x.man(0, 2), 1);
        check.due("he can't speak now", x.speak(0, 0), -1);
        bestOf(x, 2, 3, 2);
        // Two speeches by one who is strong 1.
        NineChairs y = Check.sitting("man p strong 1;matter x dies 99;matter y dies 99;wish p x 3;wish p y 1;pass stands;");
        bestOf(y, 4, 4, 4);
    }

    private static void nobodySinksOrNaps() {
        NineChairs x = Check.sitting("chair c holds 1;man p strong 1;matter x dies 99;wish p x 3;pass stands;");
        bestOf(x, 2, 3, 2);
        NineChairs y = Check.sitting("chair c holds 1;man p strong 9;matter x dies 99;wish p x 3;nap 1;");
        bestOf(y, 3, 3, 3);
        y.speak(0, 0);
        y.sit(0, 0);
        check.due("he NAPS now", y.man(0, 4), 1);
        bestOf(y, 1, 3, 1);
    }

    private static void actsAtMost() {
        // A speech, two who sit down, a VOTE: four ACTS.
        NineChairs x = Check.sitting("chair c holds 2;man p strong 9;man q strong 9;matter x dies 99;wish p x 3;wish q x 3;pass yes=2;");
        bestOf(x, 3, 0, 0);
        bestOf(x, 4, 6, 4);
        x.sit(0, 0);
        x.sit(1, 0);
        // One must rise for the speech, and sit down again.
        bestOf(x, 3, 0, 0);
        bestOf(x, 4, 6, 4);
        bestOf(x, 40, 6, 4);
    }

    private static void freeSeats() {
        NineChairs x = Check.sitting("chair c holds 1;man p strong 9;man q strong 9;man r strong 9;matter x dies 99;wish p x 3;wish q x 3;pass yes=2;");
        bestOf(x, 40, 0, 0);
        NineChairs y = Check.sitting("chair c holds 1;chair d holds 1;man p strong 9;man q strong 9;man r strong 9;matter x dies 99;wish p x 3;wish q x 3;pass yes=2;");
        bestOf(y, 4, 6, 4);
        y.sit(2, 0);
        bestOf(y, 4, 0, 0);
        bestOf(y, 5, 6, 5);
        NineChairs z = Check.sitting("man p strong 9;matter x dies 99;wish p x 3;pass sits;");
        bestOf(z, 40, 0, 0);
    }

    private static void whoStandsSpeaks() {
        NineChairs x = Check.sitting("chair c holds 1;man p strong 9;matter x dies 99;wish p x 3;pass yes;");
        bestOf(x, 3, 3, 3);
        x.sit(0, 0);
        bestOf(x, 3, 0, 0);
        bestOf(x, 4, 3, 4);
        NineChairs y = Check.sitting("chair c holds 1;man p strong 9;man q strong 9;matter x dies 99;wish p x 3;pass yes;");
        y.sit(0, 0);
        bestOf(y, 2, 3, 2);
    }

    /** p and r say yes, q no; one speaks, and all others SIT by then. */
    private static void votesInPlans() {
        String told = "chair c holds 2;chair d holds 1;man p strong 9;man q strong 9;man r strong 9;man s strong 9;man t strong 9 door;"
                + "matter x dies 99;wish p x 5;wish q x -1;wish r x 1;wish t x 1;pass ";
        String[] rules = {"yes=2 and no=1", "yes=2 and sits=3", "no=1 and stands=1 and sits=3", "yes=2 and no=1 and here=4"};
        for (String rule : rules) {
            NineChairs x = Check.sitting(told + rule + ";");
            bestOf(x, 4, 0, 0);
            bestOf(x, 5, 6, 5);
        }
        bestOf(Check.sitting(told + "here=5;"), 40, 0, 0);
        bestOf(Check.sitting(told + "sits=4;"), 40, 0, 0);
        bestOf(Check.sitting(told + "stands=2;"), 40, 6, 4);
        // A VOTE that is LOST leads nowhere.
        NineChairs y = Check.sitting("chair c holds 1;man p strong 9;matter x dies 99;wish p x 5;");
        y.speak(0, 0);
        bestOf(y, 2, 5, 2);
        y.vote(0);
        bestOf(y, 40, 0, 0);
    }

    private static void dealsInPlans() {
        NineChairs x = Check.sitting("chair c holds 2;man p strong 9;man q strong 9;man r strong 9;matter w dies 99;matter x dies 99;matter y dies 99;matter z dies 99;"
                + "wish r z 9;deal p w for q y;deal p z for r w;deal q x for p y;deal q z for r x;pass yes=2;");
        x.sit(0, 0);
        x.sit(1, 0);
        bestOf(x, 3, 0, 0);
        bestOf(x, 4, 9, 4);
        x.speak(2, 1);
        bestOf(x, 2, 0, 0);
        bestOf(x, 3, 9, 3);
        x.speak(2, 0);
        bestOf(x, 1, 0, 0);
        bestOf(x, 2, 9, 2);
        x.speak(2, 2);
        bestOf(x, 2, 9, 2);
        // What is PASSED can't be spoken for: r must rise and speak before the VOTE on x.
        NineChairs y = Check.sitting("chair c holds 2;man p strong 9;man q strong 9;man r strong 9;man s strong 9 door;matter x dies 99;matter y dies 99;"
                + "wish r x 5;wish s y 3;deal p y for r x;");
        y.speak(1, 0);
        y.speak(1, 1);
        y.sit(0, 0);
        y.sit(2, 0);
        bestOf(y, 1, 5, 1);
        bestOf(y, 4, 5, 1);
        bestOf(y, 5, 8, 5);
        // A DEAL that is DUE can do harm, and none can undo it.
        NineChairs z = Check.sitting("chair c holds 2;man p strong 9;man q strong 9;matter x dies 99;matter y dies 99;wish p x 4;deal q x for p y;pass sits=2 and yes=1;");
        bestOf(z, 4, 4, 4);
        z.speak(0, 1);
        bestOf(z, 40, 0, 0);
        mostInPlans();
    }

    /** As many MATTERS, DEALS and MEN as there can be: q speaks, p SITS and says yes by DEALS alone. */
    private static void mostInPlans() {
        String told = "chair c holds 2;man p strong 9;man q strong 9;man r strong 9;man s strong 9;man t strong 9;man u strong 9 door;"
                + "matter w dies 99;matter x dies 99;matter y dies 99;matter z dies 99;wish u w 1;wish u x 2;wish u y 4;wish u z 8;pass yes;";
        NineChairs x = Check.sitting(told + "deal p w for q x;deal p x for q w;deal p y for q z;deal p z for q y;");
        x.sit(0, 0);
        int[] worth = {0, 0, 0, 8, 12, 12, 12, 14, 15, 15};
        int[] acts = {0, 0, 0, 3, 4, 4, 4, 7, 8, 8};
        for (int t = 0; t < worth.length; t++) {
            bestOf(x, t, worth[t], acts[t]);
        }
        bestOf(x, 40, 15, 8);
        // Without the DEALS nothing of them is left.
        Check.feed(x, told);
        x.hall();
        x.sit(0, 0);
        bestOf(x, 40, 0, 0);
        check.due("u comes in", x.enter(5), 2);
        bestOf(x, 3, 8, 3);
        bestOf(x, 4, 8, 3);
        bestOf(x, 5, 12, 5);
    }

    private static void dieAsTold() {
        String told = "man p strong 9;matter x dies 2;matter y dies 4;wish p x 3;wish p y 1;pass stands;";
        NineChairs x = Check.sitting(told);
        bestOf(x, 1, 0, 0);
        bestOf(x, 2, 3, 2);
        bestOf(x, 4, 4, 4);
        x.stay(1);
        bestOf(x, 40, 1, 2);
        x.stay(1);
        bestOf(x, 40, 1, 2);
        x.stay(1);
        bestOf(x, 40, 0, 0);
        NineChairs y = Check.sitting(told);
        y.speak(0, 0);
        bestOf(y, 1, 3, 1);
        y.stay(1);
        bestOf(y, 2, 1, 2);
        NineChairs z = Check.sitting("man p strong 9;matter x dies 1;wish p x 3;pass stands;");
        bestOf(z, 40, 0, 0);
    }

    private static void doorStays() {
        NineChairs x = Check.sitting("chair c holds 2;man p strong 9;man q strong 9 door;matter x dies 99;wish p x 3;wish q x 3;pass yes=2;");
        bestOf(x, 40, 0, 0);
        x.enter(1);
        bestOf(x, 40, 6, 4);
        NineChairs y = Check.sitting("man p strong 9 door;matter x dies 99;wish p x 3;pass 1;");
        bestOf(y, 40, 0, 0);
    }

    private static void seats() {
        NineChairs x = Check.sitting("chair c holds 2;chair d holds 1 stool;man p strong 9;man q strong 9;man r strong 9;matter x dies 99;wish p x 3;pass sits=3;");
        check.due("SEATS", x.about(11), 3);
        bestOf(x, 40, 3, 5);
        x.found(1);
        check.due("SEATS without a stool that was FOUND", x.about(11), 2);
        bestOf(x, 40, 0, 0);
        NineChairs y = Check.sitting("chair c holds 2;chair d holds 1 stool;man p strong 9;man q strong 9;man r strong 9;matter x dies 99;wish p x 3;pass sits=2;");
        y.crack(0, true);
        check.due("SEATS without a CHAIR that is BROKEN", y.about(11), 1);
        bestOf(y, 40, 0, 0);
        y.crack(0, false);
        bestOf(y, 40, 3, 4);
        y.crack(1, true);
        y.found(1);
        check.due("a stool BROKEN and FOUND", y.about(11), 2);
        y.crack(0, true);
        check.due("no SEATS", y.about(11), 0);
    }

    private static void taken() {
        NineChairs x = Check.sitting("chair c holds 1;man p strong 9;man q strong 9;matter x dies 99;wish p x 3;pass yes;");
        x.speak(1, 0);
        x.sit(1, 0);
        bestOf(x, 2, 0, 0);
        bestOf(x, 3, 3, 3);
        x.rise(1);
        bestOf(x, 2, 3, 2);
        x.sit(0, 0);
        bestOf(x, 1, 3, 1);
    }

    private static void elsewhere() {
        NineChairs x = Check.sitting("chair c holds 1;chair d holds 1 stool;man p strong 9;man q strong 9;matter x dies 99;wish p x 3;pass yes;");
        x.speak(0, 0);
        x.sit(0, 1);
        bestOf(x, 1, 3, 1);
        x.found(1);
        bestOf(x, 1, 0, 0);
        bestOf(x, 2, 3, 2);
        // He STANDS to begin with, so he may speak at once.
        NineChairs y = Check.sitting("chair d holds 1 stool;man p strong 9;matter x dies 99;wish p x 3;pass stands;");
        y.sit(0, 0);
        bestOf(y, 2, 0, 0);
        y.found(0);
        bestOf(y, 2, 3, 2);
    }

    private static void worthOfAll() {
        NineChairs x = Check.sitting("man p strong 9;man q strong 9 door;man r strong 9;matter x dies 99;wish p x -3;wish q x 9;pass stands;");
        bestOf(x, 2, 6, 2);
        NineChairs y = Check.sitting("man p strong 9;man q strong 9 door;matter x dies 99;wish p x 3;wish q x -3;pass stands;");
        bestOf(y, 40, 0, 0);
    }

    private static void worthTogether() {
        String told = "man p strong 9;matter w dies 99;matter x dies 99;matter y dies 99;matter z dies 99;wish p w 1;wish p x 2;wish p y 4;wish p z -8;pass stands;";
        NineChairs x = Check.sitting(told);
        int[] worth = {0, 0, 4, 4, 6, 6, 7, 7, 7};
        int[] acts = {0, 0, 2, 2, 4, 4, 6, 6, 6};
        for (int t = 0; t < worth.length; t++) {
            bestOf(x, t, worth[t], acts[t]);
        }
        x.speak(0, 2);
        x.vote(2);
        bestOf(x, 40, 3, 4);
    }

    private static void noActAtLeast() {
        NineChairs x = Check.sitting("man p strong 9;matter x dies 99;matter y dies 99;wish p x -1;wish p y 0;pass stands;");
        bestOf(x, 40, 0, 0);
        NineChairs y = Check.sitting("man p strong 9;matter x dies 99;wish p x 1;pass 0;");
        bestOf(y, 40, 0, 0);
        NineChairs z = Check.sitting("man p strong 9;matter x dies 99;wish p x 1;pass 1;");
        bestOf(z, 40, 1, 2);
        bestOf(z, 1, 0, 0);
    }

    private static void soonest() {
        // For both MATTERS one must rise, so that the other can have the seat.
        NineChairs x = Check.sitting("chair c holds 1;man p strong 9;man q strong 9;matter x dies 99;matter y dies 99;wish p x 2;wish q y 1;pass yes;");
        bestOf(x, 3, 2, 3);
        bestOf(x, 6, 2, 3);
        bestOf(x, 7, 3, 7);
        bestOf(x, 40, 3, 7);
        x.sit(1, 0);
        bestOf(x, 2, 1, 2);
        bestOf(x, 6, 3, 6);
    }

    // ---- FEWEST, LET IN

    private static void leastSeats() {
        NineChairs x = Check.sitting("chair c holds 1;man p strong 9;man q strong 9;man r strong 9 door;matter x dies 99;wish p x 3;wish q x 3;pass yes=2;");
        check.due("of no ACT none", x.fewest(0), 0);
        check.due("too few MINUTES", x.fewest(3), 0);
        check.due("as many as there are MEN in the hall", x.fewest(4), 2);
        check.due("as many at most", x.fewest(40), 2);
        NineChairs y = Check.sitting("man p strong 9;matter x dies 99;wish p x 3;pass 1;");
        check.due("where none is needed", y.fewest(40), 0);
        NineChairs z = Check.sitting("man p strong 9 door;matter x dies 99;wish p x 3;pass 1;");
        check.due("with none in the hall", z.fewest(40), 0);
        String six = "man a strong 9;man b strong 9;man c strong 9;man d strong 9;man e strong 9;man f strong 9;matter x dies 99;wish a x 3;pass sits=";
        for (int n = 1; n <= 6; n++) {
            check.due("of six, who SIT " + n, Check.sitting(six + n + ";").fewest(40), n);
        }
    }

    private static void noLess() {
        // With none to SIT the VOTE comes at once; with one p must rise first.
        NineChairs x = Check.sitting("chair c holds 1;man p strong 9;man q strong 9;matter x dies 99;wish p x 3;pass stands=2;");
        x.speak(1, 0);
        x.sit(0, 0);
        bestOf(x, 1, 0, 0);
        check.due("more by none than by two", x.fewest(1), 0);
        // By one seat 3, by two 5: one is less.
        NineChairs y = Check.sitting("man p strong 9;man q strong 9;man r strong 9;matter x dies 99;matter y dies 99;wish p x 3;wish q y 2;wish p y 0;pass (yes and sits=1) or (sits=2 and yes);");
        check.due("in three MINUTES", y.fewest(3), 1);
        check.due("in six", y.fewest(6), 2);
        check.due("in seven", y.fewest(7), 1);
    }

    private static void firstSit() {
        NineChairs x = Check.sitting("chair c holds 2;chair d holds 1 stool;man p strong 9;man q strong 9;man r strong 9;man s strong 9;matter x dies 99;wish q x 3;pass yes;");
        x.speak(3, 0);
        x.sit(2, 0);
        x.sit(1, 0);
        check.due("the first by number is q", x.fewest(1), 1);
        x.sit(0, 1);
        check.due("the first two are p and q", x.fewest(1), 2);
        x.found(1);
        check.due("p SITS on none of the SEATS", x.fewest(1), 1);
        x.rise(1);
        check.due("q STANDS: none is of use", x.fewest(1), 0);
        check.due("q takes a free one", x.fewest(2), 2);
    }

    private static void letIn() {
        NineChairs x = Check.sitting("chair c holds 1;man p strong 9 door;man q strong 9;matter x dies 99;wish p x 3;pass yes;");
        check.due("he STANDS, and can sit down", x.lets(0, 3), 3);
        check.due("in too few MINUTES", x.lets(0, 2), 0);
        check.due("in none", x.lets(0, 0), 0);
        NineChairs y = Check.sitting("man p strong 9 door;man q strong 9;man r strong 9 door;matter x dies 99;wish p x 3;pass here=1;");
        check.due("less by him", y.lets(0, 2), -3);
        check.due("less by the other", y.lets(2, 40), -3);
        NineChairs z = Check.sitting("man p strong 9 door;man q strong 9 door;matter x dies 99;wish p x 3;pass here=2;");
        check.due("one alone", z.lets(0, 40), 0);
        z.enter(1);
        check.due("with another", z.lets(0, 40), 3);
        check.due("he is at the door yet", z.man(0, 0), 2);
    }

    // ---- FLOOR

    private static final String TALKERS =
            "man a strong 15;man b strong 16;man c strong 3;man d strong 2;man e strong 1 door;man f strong 1;";

    private static void floorOfHowMany() {
        NineChairs x = Check.sitting(TALKERS);
        check.due("of none", x.floor(0), -1);
        check.due("of one", x.floor(4), 3);
        check.due("of two", x.floor(12), 200);
        check.due("of three", x.floor(13), 200);
        check.due("of four", x.floor(45), -1);
        check.due("one at the door", x.floor(16), -1);
        check.due("with one at the door", x.floor(20), -1);
        x.enter(4);
        check.due("who came in", x.floor(20), 200);
    }

    private static void floorBits() {
        NineChairs x = Check.sitting(TALKERS);
        check.due("the first MAN", x.floor(1), 15);
        check.due("the last MAN", x.floor(32), 1);
        check.due("one beyond", x.floor(64), -1);
        check.due("the last MAN and one beyond", x.floor(96), -1);
        check.due("the highest bit", x.floor(MIN), -1);
        check.due("the highest bit and a MAN", x.floor(MIN | 4), -1);
    }

    private static void floorStrong() {
        NineChairs x = Check.sitting(TALKERS);
        check.due("strong 15", x.floor(1), 15);
        check.due("strong 16", x.floor(2), -1);
        check.due("strong 16 and 3", x.floor(6), -1);
        check.due("strong 1", x.floor(32), 1);
    }

    private static void floorTired() {
        NineChairs x = Check.sitting("chair c holds 1;man a strong 15;man b strong 3;man d strong 2;man e strong 2;");
        x.crack(0, true);
        x.stay(1);
        check.due("TIRED 1, strong 2", x.floor(4), 1);
        x.stay(1);
        check.due("TIRED 2, strong 2", x.floor(4), 0);
        check.due("two as TIRED as strong", x.floor(12), 0);
        check.due("one of two as TIRED as strong", x.floor(6), 200);
        check.due("TIRED 2, strong 3", x.floor(2), 1);
        x.stay(1);
        check.due("three as TIRED as strong", x.floor(14), 0);
        check.due("TIRED 3, strong 15", x.floor(1), 12);
        x.stay(12);
        check.due("TIRED 15, strong 15", x.floor(1), 0);
        x.crack(0, false);
        x.sit(0, 0);
        check.due("who SITS may STAND then, TIRED 13", x.floor(1), 2);
    }

    private static void floorOthersSit() {
        // Two who are strong 1: each is fresh again as the other has spoken.
        NineChairs x = Check.sitting("man a strong 1;man b strong 1;man d strong 1;");
        check.due("two", x.floor(3), 200);
        check.due("three", x.floor(7), 200);
        check.due("one", x.floor(1), 1);
    }

    private static void floorTwoHundred() {
        NineChairs x = Check.sitting(TALKERS);
        check.due("two", x.floor(5), 200);
        check.due("one, who can't", x.floor(1), 15);
        check.due("MINUTES", x.about(5), 0);
    }

    // ---- COULD

    private static void sets(NineChairs x, int yes, int no, int sets, int all, int any) {
        String call = "could(0, " + yes + ", " + no + ", ";
        check.due(call + "0)", x.could(0, yes, no, 0), sets);
        check.due(call + "1)", x.could(0, yes, no, 1), all);
        check.due(call + "2)", x.could(0, yes, no, 2), any);
    }

    private static void couldSets() {
        // The empty set is one; MEN at the door are told, too.
        NineChairs x = Check.sitting("chair c holds 2;chair d holds 2;chair e holds 2;man a strong 9 door;man b strong 9;man f strong 9 door;man g strong 9;man h strong 9;man i strong 9;matter x dies 99;");
        sets(x, 0, 0, 64, 0, 63);
        NineChairs y = Check.sitting("chair c holds 2;man p strong 9 door;man q strong 9 door;matter x dies 99;wish p x 1;wish q x -1;");
        sets(y, 1, 1, 1, 3, 3);
        sets(y, 0, 0, 1, 0, 0);
        NineChairs z = Check.sitting("matter x dies 99;");
        sets(z, 0, 0, 1, 0, 0);
    }

    private static void couldSeats() {
        NineChairs x = Check.sitting("chair c holds 1;chair d holds 2 stool;man p strong 9;man q strong 9;man r strong 9;matter x dies 99;wish p x 1;wish q x 1;wish r x 1;");
        sets(x, 3, 0, 1, 7, 7);
        sets(x, 1, 0, 3, 0, 7);
        x.found(1);
        sets(x, 3, 0, 0, 0, 0);
        sets(x, 2, 0, 0, 0, 0);
        sets(x, 1, 0, 3, 0, 7);
        x.crack(0, true);
        sets(x, 1, 0, 0, 0, 0);
        sets(x, 0, 0, 1, 0, 0);
    }

    private static void couldWishes() {
        NineChairs x = Check.sitting("chair c holds 1;man p strong 9;man q strong 9;matter x dies 99;matter y dies 99;wish p x -1;deal p x for q y;nap 1;");
        x.speak(1, 1);
        x.sit(0, 0);
        check.due("the DEAL is DUE", x.deal(0), 1);
        check.due("he NAPS", x.man(0, 4), 1);
        sets(x, 0, 1, 1, 1, 1);
        sets(x, 1, 0, 0, 0, 0);
        sets(x, 0, 0, 2, 0, 2);
    }

    private static void couldCounts() {
        NineChairs x = Check.sitting("chair c holds 2;chair d holds 2;man p strong 9;man q strong 9;man r strong 9;man s strong 9;matter x dies 99;wish p x 1;wish q x 99;wish r x -1;");
        sets(x, 2, 1, 2, 7, 15);
        sets(x, 1, 1, 4, 4, 15);
        sets(x, 2, 0, 2, 3, 11);
        sets(x, 0, 1, 2, 4, 12);
        sets(x, 0, 0, 2, 0, 8);
        sets(x, 3, 0, 0, 0, 0);
        sets(x, 0, 2, 0, 0, 0);
        sets(x, MAX, 0, 0, 0, 0);
        sets(x, 0, MAX, 0, 0, 0);
    }

    // ---- promises 20 to 24

    private static NineChairs plain() {
        return Check.sitting("chair c holds 1;man p strong 9;man q strong 9 door;matter x dies 99;wish p x 3;pass 1;");
    }

    private static void bestRefused() {
        NineChairs x = plain();
        int[] times = {-1, 41, MIN, MAX};
        for (int time : times) {
            bestOf(x, time, -1, -1);
        }
        int[] whats = {-1, 2, MIN, MAX};
        for (int what : whats) {
            check.due("best(2, " + what + ")", x.best(2, what), -1);
        }
        bestOf(x, 0, 0, 0);
        bestOf(x, 40, 3, 2);
        check.same("behind these", x, plain());
    }

    private static void fewestRefused() {
        NineChairs x = plain();
        int[] times = {-1, 41, MIN, MAX};
        for (int time : times) {
            check.due("fewest(" + time + ")", x.fewest(time), -1);
        }
        check.due("fewest(0)", x.fewest(0), 0);
        check.due("fewest(40)", x.fewest(40), 0);
        check.same("behind these", x, plain());
    }

    private static void letsRefused() {
        NineChairs x = plain();
        int[] times = {-1, 41, MIN, MAX};
        for (int time : times) {
            check.due("lets(1, " + time + ")", x.lets(1, time), GAP);
        }
        int[] men = {0, 2, 6, -1, -2, MIN, MAX};
        for (int man : men) {
            check.due("lets(" + man + ", 40)", x.lets(man, 40), GAP);
        }
        check.due("lets(1, 0)", x.lets(1, 0), 0);
        check.due("lets(1, 40)", x.lets(1, 40), 0);
        check.same("behind these", x, plain());
        x.enter(1);
        check.due("he came in", x.lets(1, 40), GAP);
    }

    private static void floorRefused() {
        NineChairs x = plain();
        int[] none = {0, 2, 3, 4, 64, -1, MIN, MAX};
        for (int men : none) {
            check.due("floor(" + men + ")", x.floor(men), -1);
        }
        check.due("floor(1)", x.floor(1), 9);
        check.same("behind these", x, plain());
        check.due("in an empty HALL", new NineChairs().floor(1), -1);
    }

    private static void couldRefused() {
        NineChairs x = plain();
        int[] none = {1, 4, -1, MIN, MAX};
        for (int matter : none) {
            check.due("could(" + matter + ", 0, 0, 0)", x.could(matter, 0, 0, 0), -1);
        }
        int[] below = {-1, MIN};
        for (int n : below) {
            check.due("could(0, " + n + ", 0, 0)", x.could(0, n, 0, 0), -1);
            check.due("could(0, 0, " + n + ", 0)", x.could(0, 0, n, 0), -1);
        }
        int[] whats = {-1, 3, MIN, MAX};
        for (int what : whats) {
            check.due("could(0, 0, 0, " + what + ")", x.could(0, 0, 0, what), -1);
        }
        check.due("could(0, 0, 0, 0)", x.could(0, 0, 0, 0), 2);
        check.same("behind these", x, plain());
    }

    private static void couldNoSet() {
        NineChairs x = plain();
        sets(x, 1, 1, 0, 0, 0);
        sets(x, 5, 0, 0, 0, 0);
        sets(x, 0, 1, 0, 0, 0);
    }
}
