/** Promises 20 to 24: BEST, FEWEST, LET IN, FLOOR and COULD, by hand. */
public final class PlanTest {
    private static final Check check = new Check("PlanTest");

    public static void main(String[] args) {
        best();
        bestFromNow();
        bestWithDeals();
        bestBeforeDeath();
        fewest();
        lets();
        floor();
        could();
        check.end();
    }

    private static void best() {
        NineChairs x = Check.sitting("chair c holds 1;man p strong 1;man q strong 9;matter x dies 99;matter y dies 99;matter z dies 99;"
                + "wish p x 5;wish q x -1;wish q y 7;wish p z 1;wish q z -9;");
        int[] worth = {0, 0, 0, 7, 7, 7, 7, 11, 11};
        int[] acts = {0, 0, 0, 3, 3, 3, 3, 7, 7};
        for (int t = 0; t < worth.length; t++) {
            check.due("best(" + t + ", 0)", x.best(t, 0), worth[t]);
            check.due("best(" + t + ", 1)", x.best(t, 1), acts[t]);
        }
        check.due("best(40, 0)", x.best(40, 0), 11);
        check.due("best(40, 1)", x.best(40, 1), 7);
        check.due("best(41, 0)", x.best(41, 0), -1);
        check.due("best(-1, 0)", x.best(-1, 0), -1);
        check.due("best(3, 2)", x.best(3, 2), -1);
        check.due("best(3, -1)", x.best(3, -1), -1);
        check.due("nothing was done", x.about(5), 0);
    }

    private static void bestFromNow() {
        NineChairs x = Check.sitting("chair c holds 1;chair d holds 1 stool;man p strong 2;man q strong 9;man r strong 9 door;"
                + "matter x dies 99;wish p x 5;wish r x 20;wish q x -1;nap 1;");
        check.due("best(3, 0), of those at the door too", x.best(3, 0), 24);
        x.speak(0, 0);
        check.due("best(2, 0), spoken for", x.best(2, 0), 24);
        x.sit(0, 0);
        check.due("he naps, but not in a PLAN", x.best(1, 0), 24);
        check.due("he naps", x.man(0, 4), 1);
        x.rise(0);
        x.sit(0, 1);
        check.due("best(1, 0) on a stool", x.best(1, 0), 24);
        x.found(1);
        check.due("best(1, 0) on one that was found", x.best(1, 0), 0);
        check.due("best(2, 0), he stands to begin with", x.best(2, 0), 24);
        x.crack(0, true);
        check.due("best(40, 0) without SEATS", x.best(40, 0), 0);
        x.crack(0, false);
        check.due("best(40, 0)", x.best(40, 0), 24);
        check.due("vote(0)", x.vote(0), 0);
        check.due("best(40, 0), lost", x.best(40, 0), 0);
        NineChairs y = Check.sitting("man p strong 1;matter x dies 99;wish p x 5;pass stands;");
        y.stay(1);
        check.due("speak(0, 0), too tired", y.speak(0, 0), -1);
        check.due("nobody tires in a PLAN", y.best(2, 0), 5);
    }

    private static void bestWithDeals() {
        NineChairs x = Check.sitting("chair c holds 1;man p strong 9;man q strong 9;matter x dies 99;matter y dies 99;"
                + "wish p x -1;wish q x 9;wish q y -30;deal p x for q y;pass yes;");
        check.due("best(3, 0)", x.best(3, 0), 8);
        x.sit(0, 0);
        check.due("best(2, 0)", x.best(2, 0), 0);
        check.due("best(3, 0), by the DEAL", x.best(3, 0), 8);
        check.due("best(3, 1)", x.best(3, 1), 3);
        x.speak(1, 1);
        check.due("best(2, 0), it is DUE", x.best(2, 0), 8);
        // Two DEALS are needed, and a MATTER that is PASSED can't be spoken for.
        NineChairs z = Check.sitting("chair c holds 2;man p strong 9;man q strong 9;man r strong 9;matter x dies 99;matter y dies 99;matter z dies 99;"
                + "wish r z 9;deal p z for r x;deal q z for r y;pass yes=2;");
        z.sit(0, 0);
        z.sit(1, 0);
        z.speak(2, 2);
        check.due("best(2, 0)", z.best(2, 0), 0);
        check.due("best(3, 0), by both DEALS", z.best(3, 0), 9);
        z.speak(2, 1);
        check.due("best(2, 0), by the other", z.best(2, 0), 9);
        check.due("best(1, 0)", z.best(1, 0), 0);
        NineChairs w = Check.sitting("chair c holds 2;man p strong 9;man q strong 9;man r strong 9;man s strong 9 door;matter x dies 99;matter y dies 99;"
                + "wish r x 5;wish s y 3;deal p y for r x;");
        w.speak(1, 0);
        w.speak(1, 1);
        w.sit(0, 0);
        w.sit(2, 0);
        check.due("best(4, 0)", w.best(4, 0), 5);
        check.due("best(5, 0)", w.best(5, 0), 8);
        // A DEAL that is DUE can do harm: here one yes must not be.
        NineChairs y = Check.sitting("chair c holds 2;man p strong 9;man q strong 9;matter x dies 99;matter y dies 99;"
                + "wish p x 4;wish p y 4;deal q x for p y;pass sits=2 and yes<2;");
        check.due("best(40, 0)", y.best(40, 0), 8);
        y.speak(0, 1);
        check.due("best(40, 0)", y.best(40, 0), 4);
    }

    private static void bestBeforeDeath() {
        NineChairs x = Check.sitting("chair c holds 1;man p strong 9;man q strong 9;matter x dies 3;matter y dies 5;wish p x 5;wish p y 6;");
        check.due("best(40, 0)", x.best(40, 0), 11);
        check.due("best(4, 0)", x.best(4, 0), 6);
        check.due("best(3, 0)", x.best(3, 0), 6);
        check.due("best(5, 1)", x.best(5, 1), 5);
        x.stay(1);
        check.due("best(40, 0) a MINUTE later", x.best(40, 0), 6);
        x.stay(1);
        check.due("best(40, 0) another later", x.best(40, 0), 6);
        x.stay(1);
        check.due("best(40, 0) too late", x.best(40, 0), 0);
    }

    private static void fewest() {
        NineChairs x = Check.sitting("chair c holds 1;man p strong 9;man q strong 9;man r strong 9;matter x dies 99;wish p x 5;wish q x 2;pass yes>1;");
        check.due("fewest(3)", x.fewest(3), 0);
        check.due("fewest(4)", x.fewest(4), 2);
        check.due("fewest(40)", x.fewest(40), 2);
        check.due("fewest(41)", x.fewest(41), -1);
        check.due("fewest(-1)", x.fewest(-1), -1);
        check.due("best(40, 0) with those there are", x.best(40, 0), 0);
        NineChairs y = Check.sitting("chair c holds 2;chair d holds 1 stool;man p strong 9;man q strong 9;man r strong 9;matter x dies 99;wish r x 5;wish q x -1;");
        y.sit(0, 1);
        y.sit(1, 0);
        y.sit(2, 0);
        y.rise(0);
        y.speak(0, 0);
        y.sit(0, 1);
        // All sit on SEATS: with three of these q must rise; with two p and q have them, and r
        // must take that of q; with one p has it, and r must take it.
        check.due("fewest(1)", y.fewest(1), 0);
        check.due("fewest(2)", y.fewest(2), 3);
        check.due("fewest(3)", y.fewest(3), 1);
        check.due("fewest(4)", y.fewest(4), 1);
        y.found(1);
        // p has none now: with two q and r have them, and q must rise.
        check.due("fewest(1)", y.fewest(1), 0);
        check.due("fewest(2)", y.fewest(2), 2);
        check.due("fewest(3)", y.fewest(3), 1);
    }

    private static void lets() {
        NineChairs x = Check.sitting("chair c holds 1;man p strong 9 door;man q strong 9;man r strong 9 door;matter x dies 99;matter y dies 99;wish p x 5;wish q y 3;pass yes>no and here<3;");
        check.due("lets(0, 3)", x.lets(0, 3), 2);
        check.due("lets(0, 40)", x.lets(0, 40), 5);
        check.due("lets(2, 40)", x.lets(2, 40), 0);
        check.due("lets(1, 3)", x.lets(1, 3), -1000000);
        check.due("lets(3, 3)", x.lets(3, 3), -1000000);
        check.due("lets(-1, 3)", x.lets(-1, 3), -1000000);
        check.due("lets(0, 41)", x.lets(0, 41), -1000000);
        check.due("lets(0, -1)", x.lets(0, -1), -1000000);
        check.due("he is at the door", x.man(0, 0), 2);
        x.enter(0);
        check.due("lets(0, 3) then", x.lets(0, 3), -1000000);
        check.due("lets(2, 40), one too many", x.lets(2, 40), -8);
    }

    private static void floor() {
        NineChairs x = Check.sitting("man p strong 15;man q strong 16;man r strong 1;man s strong 2;man t strong 1 door;man u strong 1;");
        check.due("floor(1)", x.floor(1), 15);
        check.due("floor(2), too strong", x.floor(2), -1);
        check.due("floor(4)", x.floor(4), 1);
        check.due("floor(8)", x.floor(8), 2);
        check.due("floor(12)", x.floor(12), 200);
        check.due("floor(36)", x.floor(36), 200);
        check.due("floor(44)", x.floor(44), 200);
        check.due("floor(16), at the door", x.floor(16), -1);
        check.due("floor(64)", x.floor(64), -1);
        check.due("floor(0)", x.floor(0), -1);
        check.due("floor(-1)", x.floor(-1), -1);
        check.due("floor(45), four", x.floor(45), -1);
        x.stay(1);
        check.due("floor(1), tired", x.floor(1), 14);
        check.due("floor(4), tired", x.floor(4), 0);
        check.due("floor(36), both tired", x.floor(36), 0);
        check.due("floor(12), one tired", x.floor(12), 200);
        x.stay(1);
        check.due("floor(12), both tired", x.floor(12), 0);
        check.due("floor(13)", x.floor(13), 200);
    }

    private static void could() {
        NineChairs x = Check.sitting("chair c holds 2;chair d holds 1 stool;man p strong 9;man q strong 9;man r strong 9 door;man s strong 9;"
                + "matter x dies 99;matter y dies 99;wish p x 1;wish q x -1;wish r x 3;wish s x 0;deal s x for p y;");
        x.speak(0, 1);
        check.due("could(0, 1, 0, 0)", x.could(0, 1, 0, 0), 4);
        check.due("could(0, 1, 0, 1)", x.could(0, 1, 0, 1), 0);
        check.due("could(0, 1, 0, 2)", x.could(0, 1, 0, 2), 13);
        check.due("could(0, 2, 1, 0)", x.could(0, 2, 1, 0), 1);
        check.due("could(0, 2, 1, 1)", x.could(0, 2, 1, 1), 7);
        check.due("could(0, 2, 1, 2)", x.could(0, 2, 1, 2), 7);
        check.due("could(0, 0, 0, 0)", x.could(0, 0, 0, 0), 2);
        check.due("could(0, 0, 0, 1)", x.could(0, 0, 0, 1), 0);
        check.due("could(0, 0, 0, 2)", x.could(0, 0, 0, 2), 8);
        check.due("could(0, 3, 0, 0)", x.could(0, 3, 0, 0), 0);
        check.due("could(0, 3, 0, 1)", x.could(0, 3, 0, 1), 0);
        check.due("could(0, 3, 0, 2)", x.could(0, 3, 0, 2), 0);
        x.found(1);
        check.due("could(0, 2, 1, 0), too few SEATS", x.could(0, 2, 1, 0), 0);
        check.due("could(1, 0, 0, 0)", x.could(1, 0, 0, 0), 11);
        check.due("could(2, 0, 0, 0)", x.could(2, 0, 0, 0), -1);
        check.due("could(-1, 0, 0, 0)", x.could(-1, 0, 0, 0), -1);
        check.due("could(0, -1, 0, 0)", x.could(0, -1, 0, 0), -1);
        check.due("could(0, 0, -1, 0)", x.could(0, 0, -1, 0), -1);
        check.due("could(0, 0, 0, 3)", x.could(0, 0, 0, 3), -1);
        check.due("could(0, 0, 0, -1)", x.could(0, 0, 0, -1), -1);
    }
}
