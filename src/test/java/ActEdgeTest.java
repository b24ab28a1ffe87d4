/** Terms 2 and promises 6 to 19: a test of its own for each sentence that names a boundary case. */
public final class ActEdgeTest {
    private static final Check check = new Check("ActEdgeTest");
    private static final int MIN = Integer.MIN_VALUE;
    private static final int MAX = Integer.MAX_VALUE;
    /** c holds 1, d is a stool of 2; p, q, r, s stand, t is at the door. */
    private static final String HALL =
            "chair c holds 1;chair d holds 2 stool;man p strong 9;man q strong 9;man r strong 9;man s strong 9;man t strong 9 door;"
            + "matter x dies 99;matter y dies 99;wish p x 1;wish q x -1;wish t x 9;deal p y for q x;";

    private static final String FULL =
            "chair a holds 2 stool;chair b holds 2 stool;chair c holds 2 stool;chair d holds 2 stool;chair e holds 2 stool;chair f holds 2 stool;"
            + "man a strong 9 door;man b strong 9 door;man c strong 9;man d strong 9;man e strong 9;man f strong 9 door;"
            + "matter a dies 9;matter b dies 9;matter c dies 9;matter d dies 9;wish a a 9;wish b d 9;wish f d -9;"
            + "deal a a for b b;deal a a for b b;deal a a for b b;deal a a for b b;nap 1;pass 1;";

    public static void main(String[] args) {
        run().end();
    }

    /** HALL behind others, of which there was more of each sort: none of that is left. */
    private static NineChairs behindFull() {
        NineChairs x = Check.sitting(FULL);
        Check.feed(x, FULL);
        x.hall();
        x.sit(4, 5);
        x.speak(2, 3);
        Check.feed(x, HALL);
        x.hall();
        return x;
    }

    static Check run() {
        atFirst();
        acts();
        votes();
        minutes();
        promisesOfActs();
        promisesOfAnswers();
        return check;
    }

    private static void atFirst() {
        check.sentence("A MAN is at the door (told so, at first), or in the hall: he SITS on a CHAIR, or STANDS (at first)",
                ActEdgeTest::menAtFirst);
        check.sentence("He is TIRED (0 at first)", ActEdgeTest::tiredAtFirst);
        check.sentence("A CHAIR .. is whole or BROKEN; a stool is FOUND or not (at first)", ActEdgeTest::chairsAtFirst);
        check.sentence("A MATTER is OPEN (at first), SPOKEN for, PASSED, or LOST", ActEdgeTest::matterStates);
        check.sentence("Each ACT takes a MINUTE (0 at first)", ActEdgeTest::eachActTakesMinute);
        check.sentence("one that can't be takes none", ActEdgeTest::refusedTakesNone);
    }

    private static void acts() {
        check.sentence("a CHAIR that is whole", ActEdgeTest::sitOnWhole);
        check.sentence("and has room", ActEdgeTest::sitWhereRoom);
        check.sentence("one who STANDS sits down", ActEdgeTest::whoStandsSits);
        check.sentence("one who STANDS, and is less TIRED than he is strong, speaks", ActEdgeTest::lessTiredSpeaks);
        check.sentence("for a MATTER that is OPEN or SPOKEN for", ActEdgeTest::openOrSpoken);
        check.sentence("(it is SPOKEN for then, he has spoken for it)", ActEdgeTest::hasSpoken);
        check.sentence("a VOTE on a MATTER that is SPOKEN for", ActEdgeTest::voteOnSpoken);
        check.sentence("it is PASSED, if pass e is not 0, else LOST", ActEdgeTest::notZeroPasses);
        check.sentence("one comes in from the door, and STANDS", ActEdgeTest::comesIn);
    }

    private static void votes() {
        check.sentence("VOTES: who SITS", ActEdgeTest::whoSitsVotes);
        check.sentence("does not NAP", ActEdgeTest::whoNapsDoesNot);
        check.sentence("and not on a stool that was FOUND", ActEdgeTest::foundStoolDoesNot);
        check.sentence("yes, if he has a DEAL for it whose other one has spoken for the other MATTER", ActEdgeTest::dealSaysYes);
        check.sentence("or if his wish is above 0; no, if it is below 0 (and he has no such DEAL); else neither", ActEdgeTest::wishAboveBelow);
        check.sentence("e: ints, wrapping", ActEdgeTest::wrapping);
        check.sentence("relations .. are 1 or 0", ActEdgeTest::relations);
        check.sentence("and, or, not are 1 or 0, of what is not 0", ActEdgeTest::connectives);
        check.sentence("yes, no: how many", ActEdgeTest::howMany);
        check.sentence("sits, stands: MEN in the hall who do; here: both", ActEdgeTest::whoIsHere);
    }

    private static void minutes() {
        check.sentence("MATTERS (not PASSED, not LOST) whose dies is as many MINUTES as are over now are LOST", ActEdgeTest::dying);
        check.sentence("who STANDS in the hall is 1 more TIRED (as he is strong at most)", ActEdgeTest::tiring);
        check.sentence("who SITS 2 less (0 at least)", ActEdgeTest::resting);
        check.sentence("and has sat a MINUTE more (he had 0 as he sat down)", ActEdgeTest::sitting);
        check.sentence("Then, by number, each", ActEdgeTest::sinkByNumber);
        check.sentence("who STANDS and is as TIRED as he is strong SINKS down", ActEdgeTest::asTiredAsStrong);
        check.sentence("on the first CHAIR that is whole and has room, if there is one", ActEdgeTest::sinkOnFirst);
        check.sentence("(0 MINUTES sat)", ActEdgeTest::sunkZeroMinutes);
        check.sentence("One who SITS NAPS, if nap is told and he has sat so many MINUTES or more", ActEdgeTest::napping);
        check.sentence("CHAIRS are BROKEN (who SITS there STANDS then), stools FOUND, without an ACT", ActEdgeTest::withoutAct);
        check.sentence("A DEAL is DUE as soon as its other MAN has spoken for the other MATTER", ActEdgeTest::dealDue);
        check.sentence("KEPT, if it is DUE as there is a VOTE on its MATTER, and its MAN says yes", ActEdgeTest::dealKept);
        check.sentence("BROKEN, if he does not", ActEdgeTest::dealBroken);
    }

    private static void promisesOfActs() {
        check.sentence("6: NONE, doing nothing, if one can't be, or does not SIT", ActEdgeTest::riseRefused);
        check.sentence("7: NONE, doing nothing, if it can't be", ActEdgeTest::sitRefused);
        check.sentence("8: NONE likewise", ActEdgeTest::speakRefused);
        check.sentence("9: 1 PASSED, 0 LOST; NONE likewise", ActEdgeTest::voteRefused);
        check.sentence("10: NONE if he is not at the door", ActEdgeTest::enterRefused);
        check.sentence("11: They wait so many MINUTES (0 .. 200)", ActEdgeTest::stayBounds);
        check.sentence("11: NONE, doing nothing, for another number", ActEdgeTest::stayRefused);
        check.sentence("11: All ACTS: NONE, doing nothing, if there would be more than 10,000 MINUTES", ActEdgeTest::tenThousand);
        check.sentence("12: A CHAIR is BROKEN, or whole again: how many SAT there", ActEdgeTest::crackCounts);
        check.sentence("12: NONE, doing nothing, if it is so already, or there is none such", ActEdgeTest::crackRefused);
        check.sentence("13: false if it is so already, or there is no such stool", ActEdgeTest::foundRefused);
    }

    private static void promisesOfAnswers() {
        check.sentence("14: 2 at the door, 1 SITS, 0 STANDS, 1: his CHAIR (NONE)", ActEdgeTest::manWhere);
        check.sentence("14: 3: MINUTES sat (0 if he does not SIT), 4: 1 if he NAPS, else 0", ActEdgeTest::manSat);
        check.sentence("14: 5: MATTERS he has spoken for, as bits", ActEdgeTest::manSpoken);
        check.sentence("14: -2 if there is none such, or for another what", ActEdgeTest::noSuchMan);
        check.sentence("15: who SITS there, as bits", ActEdgeTest::chairSitters);
        check.sentence("15: -2 if there is none such, or for another what", ActEdgeTest::noSuchChair);
        check.sentence("16: 1: wishes of all together, 2: yes if there were a VOTE now, 3: no", ActEdgeTest::matterCounts);
        check.sentence("16: GAP if there is none such, or for another what", ActEdgeTest::noSuchMatter);
        check.sentence("17: NONE if there is none such", ActEdgeTest::noSuchDeal);
        check.sentence("18: Of the i-th VOTE that is kept (from 0 on)", ActEdgeTest::votedFacts);
        check.sentence("18: NONE if there is none such, or for another what", ActEdgeTest::noSuchVote);
        check.sentence("19: at the end of a MINUTE (1 .. 200, over), as bits", ActEdgeTest::satBounds);
        check.sentence("19: NONE if one can't be", ActEdgeTest::satRefused);
    }

    // ---- at first

    private static void menAtFirst() {
        NineChairs x = Check.sitting("chair c holds 1;man p strong 1 door;man q strong 1;man r strong 30 door;");
        check.due("p", x.man(0, 0), 2);
        check.due("q", x.man(1, 0), 0);
        check.due("r", x.man(2, 0), 2);
        x.sit(1, 0);
        check.due("q then", x.man(1, 0), 1);
    }

    private static void tiredAtFirst() {
        NineChairs x = Check.sitting("man p strong 1 door;man q strong 1;");
        check.due("p", x.man(0, 2), 0);
        check.due("q", x.man(1, 2), 0);
        x.stay(1);
        check.due("p, who is at the door", x.man(0, 2), 0);
        check.due("q then", x.man(1, 2), 1);
    }

    private static void chairsAtFirst() {
        NineChairs x = Check.sitting("chair c holds 1;chair d holds 1 stool;");
        for (int chair = 0; chair < 2; chair++) {
            for (int what = 0; what < 3; what++) {
                check.due("chair(" + chair + ", " + what + ")", x.chair(chair, what), 0);
            }
        }
        x.crack(1, true);
        check.due("BROKEN", x.chair(1, 1), 1);
        check.due("not FOUND", x.chair(1, 2), 0);
        x.found(1);
        check.due("FOUND while BROKEN", x.chair(1, 2), 1);
        x.crack(1, false);
        check.due("whole", x.chair(1, 1), 0);
        check.due("FOUND yet", x.chair(1, 2), 1);
    }

    private static void matterStates() {
        NineChairs x = Check.sitting("man p strong 9;matter x dies 99;matter y dies 3;matter z dies 99;pass stands;");
        check.due("OPEN", x.matter(0, 0), 0);
        x.speak(0, 0);
        check.due("SPOKEN for", x.matter(0, 0), 1);
        check.due("another is OPEN", x.matter(2, 0), 0);
        x.vote(0);
        check.due("PASSED", x.matter(0, 0), 2);
        x.stay(1);
        check.due("LOST", x.matter(1, 0), 3);
    }

    private static void eachActTakesMinute() {
        NineChairs x = Check.sitting(HALL);
        check.due("at first", x.about(5), 0);
        check.due("speak", x.speak(0, 0), 1);
        check.due("sit", x.sit(0, 0), 2);
        check.due("enter", x.enter(4), 3);
        check.due("rise", x.rise(0), 4);
        check.due("stay", x.stay(1), 5);
        x.vote(0);
        check.due("vote", x.about(5), 6);
        x.crack(0, true);
        x.found(1);
        x.image(0);
        x.later(3);
        x.best(9, 0);
        check.due("what is no ACT", x.about(5), 6);
    }

    private static void refusedTakesNone() {
        NineChairs x = behindFull();
        x.rise(0);
        x.sit(4, 0);
        x.sit(0, 2);
        x.speak(4, 0);
        x.speak(0, 2);
        x.vote(0);
        x.enter(0);
        x.stay(201);
        x.stay(-1);
        check.due("MINUTES", x.about(5), 0);
        check.same("behind ACTS that can't be", x, Check.sitting(HALL));
    }

    // ---- ACTS

    private static void sitOnWhole() {
        NineChairs x = Check.sitting(HALL);
        x.crack(0, true);
        check.due("on one that is BROKEN", x.sit(0, 0), -1);
        x.crack(0, false);
        check.due("on one that is whole again", x.sit(0, 0), 1);
        x.found(1);
        check.due("on a stool that was FOUND", x.sit(1, 1), 2);
        x.crack(1, true);
        check.due("on one that is BROKEN", x.sit(2, 1), -1);
    }

    private static void sitWhereRoom() {
        NineChairs x = Check.sitting(HALL);
        check.due("the first on one for 1", x.sit(0, 0), 1);
        check.due("a second on one for 1", x.sit(1, 0), -1);
        check.due("the first on one for 2", x.sit(1, 1), 2);
        check.due("a second on one for 2", x.sit(2, 1), 3);
        check.due("a third on one for 2", x.sit(3, 1), -1);
        x.rise(1);
        check.due("where one rose", x.sit(3, 1), 5);
        check.due("who", x.chair(1, 0), 12);
    }

    private static void whoStandsSits() {
        NineChairs x = Check.sitting(HALL);
        x.sit(0, 0);
        check.due("one who SITS, elsewhere", x.sit(0, 1), -1);
        check.due("one at the door", x.sit(4, 1), -1);
        check.due("one who STANDS", x.sit(1, 1), 2);
        check.due("one who SITS, on his own", x.sit(1, 1), -1);
    }

    private static void lessTiredSpeaks() {
        NineChairs x = Check.sitting("chair c holds 1;man p strong 3;man q strong 1;man r strong 9 door;matter x dies 99;");
        x.crack(0, true);
        x.stay(2);
        check.due("TIRED 2, strong 3", x.speak(0, 0), 3);
        check.due("TIRED 3, strong 3", x.speak(0, 0), -1);
        check.due("TIRED 1, strong 1", x.speak(1, 0), -1);
        check.due("at the door", x.speak(2, 0), -1);
        x.crack(0, false);
        x.stay(1);
        check.due("he sank", x.man(0, 1), 0);
        x.stay(1);
        check.due("he is TIRED 1", x.man(0, 2), 1);
        check.due("who SITS", x.speak(0, 0), -1);
        x.rise(0);
        check.due("who STANDS again", x.speak(0, 0), 7);
    }

    private static void openOrSpoken() {
        NineChairs x = Check.sitting("man p strong 9;man q strong 9;matter x dies 99;matter y dies 99;matter z dies 4;pass here=2;");
        check.due("OPEN", x.speak(0, 0), 1);
        check.due("SPOKEN for, by another", x.speak(1, 0), 2);
        check.due("SPOKEN for, by the same", x.speak(0, 0), 3);
        check.due("the vote", x.vote(0), 1);
        check.due("PASSED", x.speak(0, 0), -1);
        check.due("LOST, for it died", x.speak(0, 2), -1);
        check.due("OPEN yet", x.speak(0, 1), 5);
        NineChairs y = Check.sitting("man p strong 9;matter x dies 99;pass 0;");
        y.speak(0, 0);
        check.due("the vote", y.vote(0), 0);
        check.due("LOST by a VOTE", y.speak(0, 0), -1);
    }

    private static void hasSpoken() {
        NineChairs x = Check.sitting(HALL);
        x.speak(2, 1);
        check.due("matter(1, 0)", x.matter(1, 0), 1);
        check.due("matter(0, 0)", x.matter(0, 0), 0);
        check.due("man(2, 5)", x.man(2, 5), 2);
        x.speak(3, 1);
        check.due("matter(1, 0) a second time", x.matter(1, 0), 1);
        check.due("man(3, 5)", x.man(3, 5), 2);
        check.due("man(0, 5)", x.man(0, 5), 0);
    }

    private static void voteOnSpoken() {
        NineChairs x = Check.sitting("man p strong 9;matter x dies 99;matter y dies 2;pass stands;");
        check.due("OPEN", x.vote(0), -1);
        x.speak(0, 0);
        check.due("another is OPEN", x.vote(1), -1);
        check.due("SPOKEN for", x.vote(0), 1);
        check.due("PASSED", x.vote(0), -1);
        check.due("LOST, for it died", x.vote(1), -1);
        NineChairs y = Check.sitting("man p strong 9;matter x dies 1;");
        y.speak(0, 0);
        check.due("SPOKEN for, but LOST", y.vote(0), -1);
    }

    private static int votedBy(String e) {
        NineChairs x = Check.sitting("man p strong 9;matter x dies 99;pass " + e + ";");
        x.speak(0, 0);
        int answer = x.vote(0);
        check.due("matter(0, 0) by pass " + e, x.matter(0, 0), answer == 1 ? 2 : 3);
        return answer;
    }

    private static void notZeroPasses() {
        check.due("by 0", votedBy("0"), 0);
        check.due("by 1", votedBy("1"), 1);
        check.due("by 2", votedBy("2"), 1);
        check.due("by -1", votedBy("0-1"), 1);
        check.due("by 9999", votedBy("9999"), 1);
        check.due("by the least int", votedBy("4096*4096*128"), 1);
        check.due("by 1 - 1", votedBy("1-1"), 0);
    }

    private static void comesIn() {
        NineChairs x = Check.sitting("chair c holds 1;man p strong 2 door;");
        x.stay(5);
        check.due("enter(0)", x.enter(0), 6);
        check.due("he STANDS", x.man(0, 0), 0);
        check.due("TIRED by that MINUTE", x.man(0, 2), 1);
        check.due("a second time", x.enter(0), -1);
        x.sit(0, 0);
        check.due("as he SITS", x.enter(0), -1);
    }

    // ---- VOTES

    private static void whoSitsVotes() {
        NineChairs x = Check.sitting("chair c holds 1;man p strong 9;man q strong 9;man r strong 9 door;matter x dies 99;wish p x 1;wish q x 1;wish r x -1;");
        check.due("yes of those who STAND", x.matter(0, 2), 0);
        check.due("no of one at the door", x.matter(0, 3), 0);
        x.sit(1, 0);
        check.due("yes of one who SITS", x.matter(0, 2), 1);
        x.rise(1);
        check.due("yes of one who rose", x.matter(0, 2), 0);
    }

    private static void whoNapsDoesNot() {
        NineChairs x = Check.sitting("chair c holds 1;man p strong 9;matter x dies 99;wish p x 1;nap 2;");
        x.speak(0, 0);
        x.sit(0, 0);
        check.due("a MINUTE before the nap", x.matter(0, 2), 1);
        x.image(0);
        check.due("vote", x.vote(0), 1);
        x.back(0);
        x.stay(1);
        check.due("as he NAPS", x.matter(0, 2), 0);
        check.due("vote", x.vote(0), 0);
    }

    private static void foundStoolDoesNot() {
        NineChairs x = Check.sitting("chair c holds 2 stool;chair d holds 1 stool;man p strong 9;man q strong 9;man r strong 9;"
                + "matter x dies 99;wish p x 1;wish q x -1;wish r x 1;");
        x.sit(0, 0);
        x.sit(1, 0);
        x.sit(2, 1);
        check.due("yes on stools not FOUND", x.matter(0, 2), 2);
        check.due("no on a stool not FOUND", x.matter(0, 3), 1);
        x.found(0);
        check.due("yes then", x.matter(0, 2), 1);
        check.due("no then", x.matter(0, 3), 0);
        x.found(1);
        check.due("yes, all FOUND", x.matter(0, 2), 0);
    }

    private static void dealSaysYes() {
        NineChairs x = Check.sitting("chair c holds 2;man p strong 20;man q strong 20;man r strong 20;matter x dies 99;matter y dies 99;matter z dies 99;"
                + "wish p x -9;deal p x for q y;");
        x.sit(0, 0);
        check.due("no, as none has spoken", x.matter(0, 3), 1);
        x.speak(2, 1);
        x.speak(1, 2);
        check.due("no, by another MAN, and for another MATTER", x.matter(0, 3), 1);
        x.speak(1, 1);
        check.due("yes by the DEAL", x.matter(0, 2), 1);
        check.due("no more no", x.matter(0, 3), 0);
        check.due("but not for another MATTER", x.matter(1, 2), 0);
        check.due("and not of another MAN", x.sit(2, 0) > 0 ? x.matter(0, 2) : -1, 1);
        NineChairs y = Check.sitting("chair c holds 1;man p strong 20;man q strong 20;man r strong 20;matter x dies 99;matter y dies 99;deal r y for p x;");
        y.speak(0, 0);
        y.sit(2, 0);
        check.due("yes of the last MAN", y.matter(1, 2), 1);
        y.rise(2);
        y.sit(0, 0);
        check.due("but not of the one who has spoken", y.matter(1, 2), 0);
    }

    private static void wishAboveBelow() {
        NineChairs x = Check.sitting("chair c holds 2;chair d holds 2;man p strong 9;man q strong 9;man r strong 9;man s strong 9;matter x dies 99;"
                + "wish p x 1;wish q x -1;wish r x 0;");
        int[] yes = {1, 0, 0, 0};
        int[] no = {0, 1, 0, 0};
        for (int man = 0; man < 4; man++) {
            x.sit(man, 0);
            check.due("yes of MAN " + man, x.matter(0, 2), yes[man]);
            check.due("no of MAN " + man, x.matter(0, 3), no[man]);
            x.rise(man);
        }
    }

    private static void wrapping() {
        check.due("2 to the 32nd is 0", votedBy("4096*4096*256"), 0);
        check.due("2 to the 31st is below 0", votedBy("4096*4096*128<0"), 1);
        check.due("the least int less 1", votedBy("4096*4096*128-1>0"), 1);
        check.due("the greatest int and 1", votedBy("4096*4096*128-1+1<0"), 1);
        check.due("the greatest int", votedBy("4096*4096*128-1=2047*1024*1024+1023*1024+1023"), 1);
        check.due("9999 thrice", votedBy("9999*9999*9999>0"), 9999 * 9999 * 9999 > 0 ? 1 : 0);
        check.due("half and half", votedBy("4096*4096*64+4096*4096*64<0"), 1);
    }

    private static void relations() {
        check.due("1<2", votedBy("(1<2)=1"), 1);
        check.due("2<2", votedBy("(2<2)=0"), 1);
        check.due("3<2", votedBy("(3<2)=0"), 1);
        check.due("3>2", votedBy("(3>2)=1"), 1);
        check.due("2>2", votedBy("(2>2)=0"), 1);
        check.due("1>2", votedBy("(1>2)=0"), 1);
        check.due("2=2", votedBy("(2=2)=1"), 1);
        check.due("1=2", votedBy("(1=2)=0"), 1);
        check.due("0-1<0", votedBy("0-1<0"), 1);
        check.due("0-1>0", votedBy("0-1>0"), 0);
    }

    private static void connectives() {
        check.due("5 and 7", votedBy("(5 and 7)=1"), 1);
        check.due("5 and 0", votedBy("(5 and 0)=0"), 1);
        check.due("0 and 5", votedBy("(0 and 5)=0"), 1);
        check.due("1 and 2, whose bits are not one", votedBy("1 and 2"), 1);
        check.due("5 or 0", votedBy("(5 or 0)=1"), 1);
        check.due("0 or 5", votedBy("(0 or 5)=1"), 1);
        check.due("5 or 2", votedBy("(5 or 2)=1"), 1);
        check.due("0 or 0", votedBy("(0 or 0)=0"), 1);
        check.due("below 0 and below 0", votedBy("((0-1) and (0-2))=1"), 1);
        check.due("below 0 or 0", votedBy("((0-1) or 0)=1"), 1);
        check.due("not 5", votedBy("(not 5)=0"), 1);
        check.due("not 0", votedBy("(not 0)=1"), 1);
        check.due("not of what is below 0", votedBy("(not 0-1)=0"), 1);
    }

    private static void howMany() {
        NineChairs x = Check.sitting("chair c holds 2;chair d holds 2;chair e holds 2;man a strong 9;man b strong 9;man g strong 9;man h strong 9;man i strong 9;man j strong 20;"
                + "matter x dies 99;wish a x 99;wish b x 1;wish g x 1;wish h x -99;wish i x -1;pass yes*10+no=32;");
        for (int man = 0; man < 5; man++) {
            x.sit(man, man / 2);
        }
        x.speak(5, 0);
        check.due("three yes, two no", x.vote(0), 1);
        check.due("kept as such", Integer.bitCount(x.voted(0, 2)) * 10 + Integer.bitCount(x.voted(0, 3)), 32);
    }

    private static void whoIsHere() {
        String told = "chair c holds 1;chair d holds 1 stool;man p strong 9;man q strong 9;man r strong 9;man s strong 9;man t strong 9 door;matter x dies 99;nap 1;pass ";
        String[] es = {"sits=2", "stands=2", "here=4", "here=sits+stands"};
        for (String e : es) {
            NineChairs x = Check.sitting(told + e + ";");
            // One who NAPS and one on a stool that was FOUND SIT all the same.
            x.sit(0, 0);
            x.sit(1, 1);
            x.found(1);
            x.speak(2, 0);
            check.due("with one at the door, " + e, x.vote(0), 1);
        }
        NineChairs y = Check.sitting(told + "stands=3 and here=5;");
        y.sit(0, 0);
        y.sit(1, 1);
        y.speak(2, 0);
        y.enter(4);
        check.due("with none at the door", y.vote(0), 1);
    }

    // ---- the end of a MINUTE

    private static void dying() {
        NineChairs x = Check.sitting("man p strong 9;matter w dies 3;matter x dies 3;matter y dies 4;matter z dies 1;pass stands;");
        x.speak(0, 0);
        check.due("dies 1, after 1", x.matter(3, 0), 3);
        x.speak(0, 1);
        check.due("dies 3, after 2", x.matter(1, 0), 1);
        check.due("a VOTE in the MINUTE it dies", x.vote(0), 1);
        check.due("PASSED stays so", x.matter(0, 0), 2);
        check.due("SPOKEN for, dies 3, after 3", x.matter(1, 0), 3);
        check.due("OPEN, dies 4, after 3", x.matter(2, 0), 0);
        x.stay(1);
        check.due("OPEN, dies 4, after 4", x.matter(2, 0), 3);
        check.due("PASSED yet", x.matter(0, 0), 2);
    }

    private static void tiring() {
        NineChairs x = Check.sitting("man p strong 30;man q strong 2;man r strong 5 door;");
        x.stay(1);
        check.due("one more", x.man(0, 2), 1);
        x.stay(1);
        check.due("as strong", x.man(1, 2), 2);
        x.stay(1);
        check.due("as strong at most", x.man(1, 2), 2);
        x.stay(26);
        check.due("29", x.man(0, 2), 29);
        x.stay(200);
        check.due("30 at most", x.man(0, 2), 30);
        check.due("at the door", x.man(2, 2), 0);
    }

    private static void resting() {
        NineChairs x = Check.sitting("chair c holds 2;man p strong 9;man q strong 9;");
        x.stay(3);
        x.sit(0, 0);
        check.due("3 less 2", x.man(0, 2), 1);
        x.sit(1, 0);
        check.due("1 less 2", x.man(0, 2), 0);
        check.due("4 less 2", x.man(1, 2), 2);
        x.stay(1);
        check.due("2 less 2", x.man(1, 2), 0);
        check.due("0 less 2", x.man(0, 2), 0);
        x.rise(0);
        check.due("1 from 0", x.man(0, 2), 1);
    }

    private static void sitting() {
        NineChairs x = Check.sitting("chair c holds 1;man p strong 9;");
        x.sit(0, 0);
        check.due("he sat down in it", x.man(0, 3), 1);
        x.stay(200);
        check.due("200 later", x.man(0, 3), 201);
        x.rise(0);
        x.sit(0, 0);
        check.due("from 0 on again", x.man(0, 3), 1);
    }

    private static void sinkByNumber() {
        NineChairs x = Check.sitting("chair c holds 1;chair d holds 1;man p strong 3;man q strong 2;man r strong 2;man s strong 2;");
        x.stay(2);
        check.due("the first of them", x.man(1, 1), 0);
        check.due("the second of them", x.man(2, 1), 1);
        check.due("no room for the third", x.man(3, 1), -1);
        check.due("p, who is not so TIRED", x.man(0, 1), -1);
        check.due("SANK", x.about(12), 2);
    }

    private static void asTiredAsStrong() {
        NineChairs x = Check.sitting("chair c holds 1;chair d holds 2;man p strong 3;man q strong 1 door;man r strong 1;");
        x.stay(1);
        check.due("strong 1, after 1", x.man(2, 1), 0);
        check.due("at the door", x.man(1, 1), -1);
        x.stay(1);
        check.due("strong 3, after 2", x.man(0, 1), -1);
        x.stay(1);
        check.due("strong 3, after 3", x.man(0, 1), 1);
        check.due("SANK", x.about(12), 2);
        check.due("rise, but TIRED 0", x.rise(2), 4);
        check.due("strong 1, TIRED 1 again", x.man(2, 1), 0);
        check.due("SANK", x.about(12), 3);
    }

    private static void sinkOnFirst() {
        NineChairs x = Check.sitting("chair a holds 1;chair b holds 1;chair c holds 2 stool;chair d holds 2;man p strong 2;man q strong 2;man r strong 9;man s strong 2;man t strong 2;");
        x.crack(0, true);
        x.found(2);
        x.sit(2, 1);
        x.stay(1);
        check.due("p, not where it is BROKEN or there is no room, but where it was FOUND", x.man(0, 1), 2);
        check.due("q beside him", x.man(1, 1), 2);
        check.due("s on the next", x.man(3, 1), 3);
        check.due("t beside him", x.man(4, 1), 3);
        NineChairs y = Check.sitting("chair a holds 1;man p strong 1;");
        y.crack(0, true);
        y.stay(5);
        check.due("where there is none he STANDS", y.man(0, 0), 0);
        check.due("SANK", y.about(12), 0);
        y.crack(0, false);
        check.due("none sinks without a MINUTE", y.man(0, 0), 0);
        y.stay(1);
        check.due("whole again", y.man(0, 1), 0);
        NineChairs z = Check.sitting("man p strong 1;");
        z.stay(5);
        check.due("without CHAIRS", z.man(0, 0), 0);
    }

    private static void sunkZeroMinutes() {
        NineChairs x = Check.sitting("chair c holds 1;man p strong 1;nap 1;");
        x.stay(1);
        check.due("as he sank", x.man(0, 3), 0);
        check.due("TIRED as he was", x.man(0, 2), 1);
        check.due("he does not NAP yet", x.man(0, 4), 0);
        x.stay(1);
        check.due("a MINUTE later", x.man(0, 3), 1);
        check.due("TIRED 0 at least", x.man(0, 2), 0);
        check.due("he NAPS", x.man(0, 4), 1);
    }

    private static void napping() {
        NineChairs x = Check.sitting("chair c holds 1;man p strong 9;nap 3;");
        x.sit(0, 0);
        x.stay(1);
        check.due("after 2", x.man(0, 4), 0);
        x.stay(1);
        check.due("after 3", x.man(0, 4), 1);
        x.stay(50);
        check.due("after 53", x.man(0, 4), 1);
        x.rise(0);
        check.due("who STANDS", x.man(0, 4), 0);
        x.sit(0, 0);
        check.due("who sat down again", x.man(0, 4), 0);
        NineChairs y = Check.sitting("chair c holds 1;man p strong 9;nap 1;");
        check.due("nap 1, who STANDS", y.man(0, 4), 0);
        y.sit(0, 0);
        check.due("nap 1, after 1", y.man(0, 4), 1);
        NineChairs z = Check.sitting("chair c holds 1;man p strong 9;nap 99;");
        z.sit(0, 0);
        z.stay(97);
        check.due("nap 99, after 98", z.man(0, 4), 0);
        z.stay(1);
        check.due("nap 99, after 99", z.man(0, 4), 1);
    }

    private static void withoutAct() {
        NineChairs x = Check.sitting("chair c holds 2;chair d holds 1 stool;man p strong 9;man q strong 9;man r strong 9;");
        x.sit(0, 0);
        x.sit(1, 0);
        x.sit(2, 1);
        x.crack(0, true);
        check.due("p STANDS", x.man(0, 0), 0);
        check.due("q STANDS", x.man(1, 0), 0);
        check.due("r SITS", x.man(2, 0), 1);
        x.found(1);
        check.due("r SITS on a stool that was FOUND", x.man(2, 1), 1);
        check.due("MINUTES", x.about(5), 3);
        check.due("TIRED as before", x.man(1, 2), 0);
        x.crack(0, false);
        check.due("p STANDS yet", x.man(0, 0), 0);
        check.due("MINUTES", x.about(5), 3);
    }

    private static void dealDue() {
        NineChairs x = Check.sitting("man p strong 9;man q strong 9;man r strong 9;matter x dies 99;matter y dies 3;deal p x for q y;");
        check.due("at first", x.deal(0), 0);
        x.speak(2, 1);
        check.due("another MAN", x.deal(0), 0);
        x.speak(1, 0);
        check.due("for another MATTER", x.deal(0), 0);
        x.speak(1, 1);
        check.due("he has spoken", x.deal(0), 1);
        check.due("for what is LOST by that MINUTE", x.matter(1, 0), 3);
        x.stay(200);
        check.due("DUE yet", x.deal(0), 1);
    }

    private static NineChairs dealt() {
        NineChairs x = Check.sitting("chair c holds 1;chair d holds 1 stool;man p strong 20;man q strong 20;matter x dies 99;matter y dies 99;wish p x -9;deal p x for q y;deal p y for q x;nap 3;");
        x.speak(0, 0);
        x.speak(1, 1);
        return x;
    }

    private static void dealKept() {
        NineChairs x = dealt();
        x.sit(0, 0);
        x.vote(0);
        check.due("he said yes", x.deal(0), 2);
        check.due("another DEAL", x.deal(1), 0);
        x.stay(9);
        check.due("KEPT yet", x.deal(0), 2);
        x.speak(1, 1);
        check.due("KEPT, though spoken for again", x.deal(0), 2);
        NineChairs z = Check.sitting("chair c holds 1;man p strong 20;man q strong 20;matter x dies 99;matter y dies 99;deal p x for q y;pass 0;");
        z.speak(1, 0);
        z.speak(1, 1);
        z.sit(0, 0);
        check.due("LOST", z.vote(0), 0);
        check.due("he said yes all the same", z.deal(0), 2);
        NineChairs y = Check.sitting("chair c holds 1;man p strong 20;man q strong 20;matter x dies 99;matter y dies 99;wish p x 9;deal p x for q y;");
        y.speak(0, 0);
        y.sit(0, 0);
        y.vote(0);
        check.due("yes by his wish, but not DUE", y.deal(0), 0);
        y.speak(1, 1);
        check.due("DUE behind the VOTE", y.deal(0), 1);
    }

    private static void dealBroken() {
        NineChairs x = dealt();
        x.vote(0);
        check.due("he STOOD", x.deal(0), 3);
        x.stay(1);
        check.due("BROKEN yet", x.deal(0), 3);
        NineChairs y = dealt();
        y.sit(0, 0);
        y.stay(2);
        y.vote(0);
        check.due("he slept", y.deal(0), 3);
        NineChairs z = dealt();
        z.sit(0, 1);
        z.found(1);
        z.vote(0);
        check.due("his stool was FOUND", z.deal(0), 3);
        NineChairs w = Check.sitting("man p strong 20;man q strong 20;matter x dies 99;matter y dies 99;deal p x for q y;pass 1;");
        w.speak(1, 0);
        w.speak(1, 1);
        check.due("PASSED", w.vote(0), 1);
        check.due("without him", w.deal(0), 3);
    }

    // ---- promises of ACTS

    private static void riseRefused() {
        NineChairs x = behindFull();
        int[] none = {5, 6, -1, -2, MIN, MAX};
        for (int man : none) {
            check.due("rise(" + man + ")", x.rise(man), -1);
        }
        check.due("one who STANDS", x.rise(0), -1);
        check.due("one at the door", x.rise(4), -1);
        check.same("behind these", x, Check.sitting(HALL));
        x.sit(3, 0);
        check.due("one who SITS", x.rise(3), 2);
    }

    private static void sitRefused() {
        NineChairs x = behindFull();
        int[] noMan = {5, 6, -1, -2, MIN, MAX};
        for (int man : noMan) {
            check.due("sit(" + man + ", 0)", x.sit(man, 0), -1);
        }
        int[] noChair = {2, 6, -1, -2, MIN, MAX};
        for (int chair : noChair) {
            check.due("sit(0, " + chair + ")", x.sit(0, chair), -1);
        }
        check.due("one at the door", x.sit(4, 0), -1);
        check.same("behind these", x, Check.sitting(HALL));
        check.due("the last CHAIR", x.sit(3, 1), 1);
    }

    private static void speakRefused() {
        NineChairs x = behindFull();
        int[] noMan = {5, 6, -1, -2, MIN, MAX};
        for (int man : noMan) {
            check.due("speak(" + man + ", 0)", x.speak(man, 0), -1);
        }
        int[] noMatter = {2, 4, -1, -2, MIN, MAX};
        for (int matter : noMatter) {
            check.due("speak(0, " + matter + ")", x.speak(0, matter), -1);
        }
        check.due("one at the door", x.speak(4, 0), -1);
        check.same("behind these", x, Check.sitting(HALL));
        check.due("the last MATTER", x.speak(3, 1), 1);
    }

    private static void voteRefused() {
        NineChairs x = behindFull();
        int[] noMatter = {2, 4, -1, -2, MIN, MAX};
        for (int matter : noMatter) {
            check.due("vote(" + matter + ")", x.vote(matter), -1);
        }
        check.due("an OPEN one", x.vote(1), -1);
        check.same("behind these", x, Check.sitting(HALL));
        x.speak(1, 0);
        x.speak(1, 1);
        x.sit(0, 0);
        check.due("PASSED", x.vote(0), 1);
        x.rise(0);
        check.due("LOST", x.vote(1), 0);
    }

    private static void enterRefused() {
        NineChairs x = behindFull();
        int[] none = {0, 3, 5, 6, -1, -2, MIN, MAX};
        for (int man : none) {
            check.due("enter(" + man + ")", x.enter(man), -1);
        }
        check.same("behind these", x, Check.sitting(HALL));
        check.due("one at the door", x.enter(4), 1);
    }

    private static void stayBounds() {
        NineChairs x = Check.sitting(HALL);
        check.due("stay(0)", x.stay(0), 0);
        check.same("behind no MINUTE", x, Check.sitting(HALL));
        check.due("stay(1)", x.stay(1), 1);
        check.due("stay(199)", x.stay(199), 200);
        check.due("stay(200)", x.stay(200), 400);
        check.due("MINUTES", x.about(5), 400);
        check.due("each was over by itself", x.about(12) > 0, true);
    }

    private static void stayRefused() {
        NineChairs x = behindFull();
        int[] none = {-1, 201, 1000, MIN, MAX};
        for (int minutes : none) {
            check.due("stay(" + minutes + ")", x.stay(minutes), -1);
        }
        check.same("behind these", x, Check.sitting(HALL));
    }

    /** A sitting of 9,999 MINUTES, with one who SITS, two who STAND and one at the door. */
    private static NineChairs late() {
        NineChairs x = Check.sitting("chair c holds 1;chair d holds 1;chair e holds 1;man p strong 9;man q strong 30;man r strong 9 door;matter x dies 999;");
        x.crack(1, true);
        x.crack(2, true);
        x.sit(0, 0);
        for (int i = 0; i < 49; i++) {
            x.stay(200);
        }
        x.stay(198);
        x.crack(1, false);
        return x;
    }

    private static void tenThousand() {
        NineChairs x = late();
        check.due("MINUTES", x.about(5), 9999);
        x.image(0);
        check.due("rise, the last", x.rise(0), 10000);
        x.back(0);
        check.due("sit, the last", x.sit(1, 1), 10000);
        x.back(0);
        check.due("enter, the last", x.enter(2), 10000);
        x.back(0);
        check.due("stay(2), one too many", x.stay(2), -1);
        check.due("stay(200), many too many", x.stay(200), -1);
        check.same("behind these", x, late());
        check.due("stay(1), the last", x.stay(1), 10000);
        x.crack(1, true);
        x.crack(1, false);
        x.crack(2, false);
        NineChairs y = late();
        y.stay(1);
        y.crack(1, true);
        y.crack(1, false);
        y.crack(2, false);
        check.due("rise", x.rise(0), -1);
        check.due("sit", x.sit(1, 1), -1);
        check.due("speak", x.speak(1, 0), -1);
        check.due("vote", x.vote(0), -1);
        check.due("enter", x.enter(2), -1);
        check.due("stay(1)", x.stay(1), -1);
        check.due("stay(0)", x.stay(0), 10000);
        check.same("behind these", x, y);
    }

    private static void crackCounts() {
        NineChairs x = Check.sitting(HALL);
        check.due("none SAT there", x.crack(0, true), 0);
        check.due("whole again", x.crack(0, false), 0);
        x.sit(0, 0);
        x.sit(1, 1);
        x.sit(2, 1);
        check.due("one SAT there", x.crack(0, true), 1);
        check.due("two SAT there", x.crack(1, true), 2);
        check.due("whole again", x.crack(1, false), 0);
    }

    private static void crackRefused() {
        NineChairs x = behindFull();
        int[] none = {2, 6, -1, -2, 32, 33, MIN, MAX};
        for (int chair : none) {
            check.due("crack(" + chair + ", true)", x.crack(chair, true), -1);
            check.due("crack(" + chair + ", false)", x.crack(chair, false), -1);
        }
        check.due("one that is whole", x.crack(0, false), -1);
        check.same("behind these", x, Check.sitting(HALL));
        x.sit(0, 0);
        check.due("one that is whole, where one SITS", x.crack(0, false), -1);
        check.due("he SITS yet", x.man(0, 0), 1);
        x.crack(0, true);
        check.due("one that is BROKEN", x.crack(0, true), -1);
        check.due("it is BROKEN yet", x.chair(0, 1), 1);
    }

    private static void foundRefused() {
        NineChairs x = behindFull();
        int[] none = {0, 2, 6, -1, -2, 33, MIN, MAX};
        for (int chair : none) {
            check.due("found(" + chair + ")", x.found(chair), false);
        }
        check.same("behind these", x, Check.sitting(HALL));
        check.due("a stool", x.found(1), true);
        check.due("a stool that was FOUND", x.found(1), false);
        check.due("it is FOUND yet", x.chair(1, 2), 1);
    }

    // ---- promises of answers

    private static void manWhere() {
        NineChairs x = Check.sitting(HALL);
        x.sit(3, 1);
        int[] where = {0, 0, 0, 1, 2};
        int[] chair = {-1, -1, -1, 1, -1};
        for (int man = 0; man < 5; man++) {
            check.due("man(" + man + ", 0)", x.man(man, 0), where[man]);
            check.due("man(" + man + ", 1)", x.man(man, 1), chair[man]);
        }
        x.sit(0, 0);
        check.due("the first CHAIR", x.man(0, 1), 0);
    }

    private static void manSat() {
        NineChairs x = Check.sitting("chair c holds 1;man p strong 9;man q strong 9 door;nap 2;");
        x.sit(0, 0);
        x.stay(1);
        check.due("who SITS", x.man(0, 3), 2);
        check.due("he NAPS", x.man(0, 4), 1);
        x.rise(0);
        check.due("who rose", x.man(0, 3), 0);
        check.due("he does not NAP", x.man(0, 4), 0);
        check.due("who is at the door", x.man(1, 3), 0);
        x.sit(0, 0);
        x.stay(1);
        x.crack(0, true);
        check.due("whose CHAIR is BROKEN", x.man(0, 3), 0);
        check.due("he does not NAP", x.man(0, 4), 0);
    }

    private static void manSpoken() {
        NineChairs x = Check.sitting("man p strong 9;man q strong 9;matter w dies 99;matter x dies 99;matter y dies 99;matter z dies 1;");
        x.speak(0, 3);
        check.due("the last one", x.man(0, 5), 8);
        x.speak(0, 0);
        check.due("and the first", x.man(0, 5), 9);
        x.speak(0, 0);
        check.due("again", x.man(0, 5), 9);
        x.speak(0, 1);
        x.speak(0, 2);
        check.due("all", x.man(0, 5), 15);
        check.due("none", x.man(1, 5), 0);
    }

    private static void noSuchMan() {
        NineChairs x = behindFull();
        int[] none = {5, 6, -1, MIN, MAX};
        for (int man : none) {
            for (int what = 0; what < 6; what++) {
                check.due("man(" + man + ", " + what + ")", x.man(man, what), -2);
            }
        }
        int[] whats = {6, -1, MIN, MAX};
        for (int what : whats) {
            check.due("man(0, " + what + ")", x.man(0, what), -2);
        }
        check.due("the last one", x.man(4, 0), 2);
    }

    private static void chairSitters() {
        NineChairs x = Check.sitting("chair c holds 2;man a strong 9;man b strong 9;man d strong 9;man e strong 9;man f strong 9;man g strong 9;");
        check.due("none", x.chair(0, 0), 0);
        x.sit(5, 0);
        check.due("the last MAN", x.chair(0, 0), 32);
        x.sit(0, 0);
        check.due("and the first", x.chair(0, 0), 33);
    }

    private static void noSuchChair() {
        NineChairs x = behindFull();
        int[] none = {2, 6, -1, -2, MIN, MAX};
        for (int chair : none) {
            for (int what = 0; what < 3; what++) {
                check.due("chair(" + chair + ", " + what + ")", x.chair(chair, what), -2);
            }
        }
        int[] whats = {3, -1, MIN, MAX};
        for (int what : whats) {
            check.due("chair(0, " + what + ")", x.chair(0, what), -2);
        }
    }

    private static void matterCounts() {
        NineChairs x = Check.sitting("chair c holds 2;man p strong 9;man q strong 9;man r strong 9 door;matter x dies 9;matter y dies 99;"
                + "wish p x 99;wish q x -98;wish r x -3;");
        check.due("with one at the door", x.matter(0, 1), -2);
        check.due("of none", x.matter(1, 1), 0);
        check.due("yes, as all STAND", x.matter(0, 2), 0);
        x.sit(0, 0);
        x.sit(1, 0);
        check.due("yes", x.matter(0, 2), 1);
        check.due("no", x.matter(0, 3), 1);
        x.stay(7);
        check.due("LOST", x.matter(0, 0), 3);
        check.due("wishes of what is LOST", x.matter(0, 1), -2);
        check.due("yes, if there were a VOTE", x.matter(0, 2), 1);
        check.due("no VOTE was", x.about(6), 0);
    }

    private static void noSuchMatter() {
        NineChairs x = behindFull();
        int[] none = {2, 4, -1, MIN, MAX};
        for (int matter : none) {
            for (int what = 0; what < 4; what++) {
                check.due("matter(" + matter + ", " + what + ")", x.matter(matter, what), -1000000);
            }
        }
        int[] whats = {4, -1, MIN, MAX};
        for (int what : whats) {
            check.due("matter(0, " + what + ")", x.matter(0, what), -1000000);
        }
    }

    private static void noSuchDeal() {
        NineChairs x = behindFull();
        check.due("the last one", x.deal(0), 0);
        int[] none = {1, 3, 4, -1, MIN, MAX};
        for (int deal : none) {
            check.due("deal(" + deal + ")", x.deal(deal), -1);
        }
    }

    private static void votedFacts() {
        NineChairs x = Check.sitting("chair c holds 2;man a strong 30;man b strong 30;man d strong 30;man e strong 30;man f strong 30 door;man g strong 30;"
                + "matter w dies 99;matter x dies 99;matter y dies 99;matter z dies 99;wish a w -1;wish g w 1;wish a z 1;");
        x.speak(1, 3);
        x.vote(3);
        int[] first = {2, 3, 0, 0, 63, 0};
        for (int what = 0; what < 6; what++) {
            check.due("the soonest, voted(0, " + what + ")", x.voted(0, what), first[what]);
        }
        x.speak(1, 0);
        x.speak(1, 1);
        x.speak(1, 2);
        x.sit(0, 0);
        x.sit(5, 0);
        x.vote(1);
        x.vote(2);
        check.due("VOTE 3, of one who says yes and one who says no", x.vote(0), 0);
        int[] last = {10, 0, 32, 1, 30, 0};
        for (int what = 0; what < 6; what++) {
            check.due("the last, voted(3, " + what + ")", x.voted(3, what), last[what]);
        }
        check.due("the first yet", x.voted(0, 1), 3);
        check.due("VOTES", x.about(6), 4);
    }

    private static void noSuchVote() {
        NineChairs x = Check.sitting("man p strong 9;matter x dies 99;matter y dies 99;pass stands;");
        check.due("before any", x.voted(0, 0), -1);
        x.speak(0, 0);
        check.due("PASSED", x.vote(0), 1);
        check.due("voted(0, 5)", x.voted(0, 5), 1);
        int[] none = {1, 3, 4, 99, 100, -1, MIN, MAX};
        for (int i : none) {
            for (int what = 0; what < 6; what++) {
                check.due("voted(" + i + ", " + what + ")", x.voted(i, what), -1);
            }
        }
        int[] whats = {6, 7, -1, MIN, MAX};
        for (int what : whats) {
            check.due("voted(0, " + what + ")", x.voted(0, what), -1);
        }
    }

    private static void satBounds() {
        NineChairs x = Check.sitting("chair c holds 1;chair d holds 2;chair e holds 1;man a strong 30;man b strong 30;man f strong 1 door;man g strong 30;man h strong 30 door;man i strong 2;");
        x.sit(0, 1);
        check.due("the first MINUTE", x.sat(1, 1), 1);
        check.due("another CHAIR", x.sat(0, 1), 0);
        check.due("one not over", x.sat(1, 2), -1);
        x.sit(1, 1);
        check.due("the second", x.sat(1, 2), 3);
        check.due("one who sank at its end", x.sat(0, 2), 32);
        x.enter(2);
        check.due("one who came in and sank", x.sat(2, 3), 4);
        check.due("the first yet", x.sat(1, 1), 1);
        x.stay(196);
        check.due("MINUTE 199", x.sat(1, 199), 3);
        check.due("one not over", x.sat(1, 200), -1);
        x.rise(0);
        check.due("MINUTE 200", x.sat(1, 200), 10);
        x.stay(1);
        check.due("MINUTE 201 is not kept", x.sat(1, 201), -1);
        check.due("MINUTE 200 yet", x.sat(1, 200), 10);
        check.due("the last CHAIR", x.sat(2, 200), 4);
    }

    private static void satRefused() {
        NineChairs x = behindFull();
        check.due("before any MINUTE", x.sat(0, 1), -1);
        x.stay(200);
        x.stay(200);
        int[] minutes = {0, -1, 201, 400, 401, MIN, MAX};
        for (int minute : minutes) {
            check.due("sat(0, " + minute + ")", x.sat(0, minute), -1);
        }
        int[] none = {2, 6, -1, -2, MIN, MAX};
        for (int chair : none) {
            check.due("sat(" + chair + ", 1)", x.sat(chair, 1), -1);
        }
        check.due("sat(0, 1)", x.sat(0, 1), 0);
    }
}
