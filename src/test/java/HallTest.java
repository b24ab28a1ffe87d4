/** Promises 1 to 5: a new object, the TAPE, the HALL and its FAULTS. */
public final class HallTest {
    private static final Check check = new Check("HallTest");
    private static final String TWO =
            "man p strong 1;man q strong 1;matter x dies 1;matter y dies 1;";
    private static final int N = TWO.length();

    public static void main(String[] args) {
        newObject();
        tape();
        hallTakesTheTape();
        faultKeepsAll();
        hallForgets();
        tokens();
        lines();
        limits();
        wishesAndDeals();
        rules();
        check.end();
    }

    private static void newObject() {
        NineChairs x = new NineChairs();
        for (int what = 0; what <= 12; what++) {
            check.due("new about(" + what + ")", x.about(what), 0);
        }
        check.due("new fault(0)", x.fault(0), 0);
        check.due("new fault(1)", x.fault(1), -1);
        check.due("new man(0, 0)", x.man(0, 0), -2);
        check.due("new chair(0, 0)", x.chair(0, 0), -2);
        check.due("new matter(0, 0)", x.matter(0, 0), -1000000);
        check.due("new back(0)", x.back(0), -1);
        check.due("new hall()", x.hall(), 0);
        check.due("NONE", NineChairs.NONE, -1);
        check.due("GAP", NineChairs.GAP, -1000000);
    }

    private static void tape() {
        NineChairs x = new NineChairs();
        for (int i = 1; i <= 85; i++) {
            check.due("feed " + i, x.feed(0, 0, 0, 0, 0), 20 * i);
        }
        check.due("feed of too many", x.feed(0, 0, 0, 0, 0), -1);
        check.due("bytes then", x.about(9), 1700);
        check.due("end(1701)", x.end(1701), -1);
        check.due("end(-1)", x.end(-1), -1);
        check.due("end(1700)", x.end(1700), 1700);
        check.due("end(1681)", x.end(1681), 1681);
        check.due("feed of one too many", x.feed(0, 0, 0, 0, 0), -1);
        check.due("bytes then", x.about(9), 1681);
        check.due("end(1680)", x.end(1680), 1680);
        check.due("feed of just as many", x.feed(0, 0, 0, 0, 0), 1700);
        check.due("end(0)", x.end(0), 0);
        check.due("end(1) of none", x.end(1), -1);
        // The highest byte of each number comes first; bytes behind an end are behind what is left.
        x.feed(0x6e617020, 0x39393939, 0, 0, 0);
        check.due("end(5)", x.end(5), 5);
        check.due("feed behind", x.feed(0x3b000000, 0, 0, 0, 0), 25);
        x.end(6);
        check.due("nap 9;", x.hall(), 0);
        check.due("its fault", x.fault(0), 0);
    }

    private static void hallTakesTheTape() {
        NineChairs x = new NineChairs();
        Check.feed(x, "man p strong 3;man q strong 4 door;");
        check.due("hall()", x.hall(), 2);
        check.due("bytes then", x.about(9), 0);
        check.due("hall() of the empty TAPE", x.hall(), 0);
        check.due("MEN then", x.about(1), 0);
        Check.feed(x, "man p strong 3;$");
        check.due("hall() with a fault", x.hall(), -1);
        check.due("bytes then", x.about(9), 0);
        check.due("fault(0)", x.fault(0), 1);
        check.due("fault(1)", x.fault(1), 15);
        check.due("fault(2)", x.fault(2), -1);
        check.due("fault(-1)", x.fault(-1), -1);
        check.due("hall()", x.hall(), 0);
        check.due("fault(0) of the latest", x.fault(0), 0);
        check.due("fault(1) of the latest", x.fault(1), -1);
    }

    private static void faultKeepsAll() {
        NineChairs x = Check.sitting("chair c holds 1;man p strong 3;matter x dies 9;wish p x 4;nap 2;pass sits;");
        x.sit(0, 0);
        x.entry(0, 0, 1);
        x.image(1);
        x.later(5);
        Check.feed(x, "chair c holds 2;chair d holds 2;man a strong 3;man b strong 7;matter y dies 5;wish a y -4;pass 1;;");
        check.due("hall()", x.hall(), -1);
        check.due("CHAIRS", x.about(0), 1);
        check.due("MEN", x.about(1), 1);
        check.due("MATTERS", x.about(2), 1);
        check.due("wishes", x.about(3), 1);
        check.due("MINUTES", x.about(5), 1);
        check.due("ENTRIES", x.about(7), 1);
        check.due("TIME", x.about(8), 5);
        check.due("units", x.about(10), 1);
        check.due("SEATS", x.about(11), 1);
        check.due("man(0, 0)", x.man(0, 0), 1);
        check.due("matter(0, 1)", x.matter(0, 1), 4);
        check.due("back(1)", x.back(1), 1);
    }

    private static void hallForgets() {
        NineChairs x = Check.sitting("chair c holds 1 stool;man p strong 2;man q strong 2;matter x dies 9;wish p x 4;nap 1;pass not 1;");
        x.speak(0, 0);
        x.stay(3);
        x.vote(0);
        x.found(0);
        x.crack(0, true);
        x.entry(0, 0, 1);
        x.later(7);
        x.image(0);
        Check.feed(x, "chair c holds 1 stool;man p strong 2;man q strong 2;matter x dies 9;");
        check.due("hall()", x.hall(), 2);
        int[] due = {1, 2, 1, 0, 0, 0, 0, 0, 7, 0, 0, 1, 0};
        for (int what = 0; what < due.length; what++) {
            check.due("about(" + what + ") of the new HALL", x.about(what), due[what]);
        }
        check.due("voted(0, 0)", x.voted(0, 0), -1);
        check.due("sat(0, 1)", x.sat(0, 1), -1);
        check.due("back(0)", x.back(0), -1);
        check.due("chair(0, 1)", x.chair(0, 1), 0);
        check.due("chair(0, 2)", x.chair(0, 2), 0);
        check.due("matter(0, 0)", x.matter(0, 0), 0);
        check.due("matter(0, 1)", x.matter(0, 1), 0);
        check.due("man(0, 2)", x.man(0, 2), 0);
        check.due("man(0, 5)", x.man(0, 5), 0);
        x.sit(0, 0);
        check.due("no nap is told", x.man(0, 4), 0);
    }

    private static void tokens() {
        check.fault("", 0, -1);
        check.fault(" \n ", 0, -1);
        check.fault("nap\n5\n;", 0, -1);
        check.fault("nap5;", 0, -1);
        check.fault("chair r holds1stool;", 1, 13);
        check.fault("chair r holds 1stool;", 1, 14);
        check.fault("chair r holds 1 stool;man r strong 1;matter r dies 1;", 0, -1);
        check.fault("nap\t5;", 1, 3);
        check.fault("nap 5,", 1, 5);
        check.fault("Nap 5;", 1, 0);
        check.fault("nap 5;" + (char) 0, 1, 6);
        check.fault("nap 5;" + (char) 233, 1, 6);
        check.fault("man abcdefgh strong 1;", 0, -1);
        check.fault("man abcdefghi strong 1;", 1, 4);
        check.fault("nap 0005;", 0, -1);
        check.fault("nap 00005;", 1, 4);
        check.fault("nap 5a", 1, 4);
        check.fault("nap 5z", 1, 4);
        check.fault("pass 9999;", 0, -1);
        check.fault("pass 12345;", 1, 5);
        // The first by its place: what comes behind it does not count.
        check.fault("nap 0$", 4, 4);
        check.fault("nap $ 0", 1, 4);
    }

    private static void lines() {
        check.fault(";", 2, 0);
        check.fault("5", 2, 0);
        check.fault("foo", 2, 0);
        check.fault("stool", 2, 0);
        check.fault("chair", 2, 5);
        check.fault("chair ", 2, 6);
        check.fault("chair 5", 2, 6);
        check.fault("chair c", 2, 7);
        check.fault("chair c holds", 2, 13);
        check.fault("chair c holds ;", 2, 14);
        check.fault("chair c hold 1;", 2, 8);
        check.fault("chair c holds 0;", 4, 14);
        check.fault("chair c holds 1", 2, 15);
        check.fault("chair c holds 2 door;", 2, 16);
        check.fault("chair c holds 2 stool", 2, 21);
        check.fault("chair c holds 2 stool stool;", 2, 22);
        check.fault("man c strong 31;", 4, 13);
        check.fault("man c strong 30;", 0, -1);
        check.fault("man c strong 1 stool;", 2, 15);
        check.fault("man c strong 1 door;man c", 3, 24);
        check.fault("matter c dies 999;", 0, -1);
        check.fault("matter c dies 1000;", 4, 14);
        check.fault("matter c dies 1;matter d dies 2;matter c", 3, 39);
        check.fault("nap 99;", 0, -1);
        check.fault("nap 100;", 4, 4);
        check.fault("nap -1;", 2, 4);
        check.fault("nap 1;pass 1;nap 1;", 2, 13);
        check.fault("pass 1;pass", 2, 7);
        check.fault("nap 1;;", 2, 6);
        String[] words = {"chair", "holds", "stool", "man", "strong", "door", "matter", "dies",
            "wish", "deal", "for", "nap", "pass", "or", "and", "not", "yes", "no", "sits",
            "stands", "here"};
        for (String word : words) {
            check.fault("man " + word + " strong 1;", 2, 4);
            check.fault("man x" + word.substring(1) + " strong 1;", 0, -1);
        }
    }

    private static void limits() {
        StringBuilder chairs = new StringBuilder();
        StringBuilder men = new StringBuilder();
        StringBuilder matters = new StringBuilder();
        for (int i = 0; i < 6; i++) {
            chairs.append("chair ").append((char) ('a' + i)).append(" holds 2;");
            men.append("man ").append((char) ('a' + i)).append(" strong 9;");
            if (i < 4) {
                matters.append("matter ").append((char) ('a' + i)).append(" dies 9;");
            }
        }
        check.fault(chairs.toString(), 0, -1);
        check.fault(chairs + "chair", 2, chairs.length());
        check.fault(chairs + "chair a", 2, chairs.length());
        check.fault(men.toString(), 0, -1);
        check.fault(men + " man z strong 1;", 2, men.length() + 1);
        check.fault(matters.toString(), 0, -1);
        check.fault(matters + "matter", 2, matters.length());
        StringBuilder all = new StringBuilder(men).append(matters);
        for (int i = 0; i < 24; i++) {
            all.append("wish ").append((char) ('a' + i / 4)).append((char) 32)
                    .append((char) ('a' + i % 4)).append(" 1;");
        }
        check.due("24 wishes", Check.sitting(all.toString()).about(3), 24);
        check.fault(all + "wish a a 1;", 2, all.length());
        String deal = "deal a a for b b;";
        check.fault(all + deal + deal + deal + deal, 0, -1);
        check.due("4 deals", Check.sitting(all + deal + deal + deal + deal).about(4), 4);
        check.fault(all + deal + deal + deal + deal + deal, 2, all.length() + 4 * deal.length());
    }

    private static void wishesAndDeals() {
        check.fault(TWO + "wish p x -99;wish q x 99;wish p y -0;wish q y - 5;", 0, -1);
        check.fault(TWO + "wish p x 100;", 4, N + 9);
        check.fault(TWO + "wish p x - 100;", 4, N + 9);
        check.fault(TWO + "wish p x -100a;", 1, N + 10);
        check.fault(TWO + "wish p x --1;", 2, N + 10);
        check.fault(TWO + "wish p x +1;", 2, N + 9);
        check.fault(TWO + "wish p x ;", 2, N + 9);
        check.fault(TWO + "wish p x 1", 2, N + 10);
        check.fault(TWO + "wish x x 1;", 5, N + 5);
        check.fault(TWO + "wish p p 1;", 5, N + 7);
        check.fault(TWO + "wish man x 1;", 2, N + 5);
        check.fault(TWO + "wish p 1;", 2, N + 7);
        check.fault(TWO + "wish p x 0;wish p x 1;", 3, N + 18);
        check.fault(TWO + "wish p x 0;wish q x 1;wish p y 1;", 0, -1);
        check.fault("matter x dies 9;wish p x 1;man p strong 1;", 5, 21);
        check.fault(TWO + "deal p x for q y;", 0, -1);
        check.fault(TWO + "deal z x for q y;", 5, N + 5);
        check.fault(TWO + "deal p z for q y;", 5, N + 7);
        check.fault(TWO + "deal p x for z y;", 5, N + 13);
        check.fault(TWO + "deal p x for q z;", 5, N + 15);
        check.fault(TWO + "deal p x for p y;", 3, N + 13);
        check.fault(TWO + "deal p x for q x;", 3, N + 15);
        check.fault(TWO + "deal p x q y;", 2, N + 9);
        check.fault(TWO + "deal p x for q y", 2, N + 16);
        check.fault(TWO + "deal p for", 2, N + 7);
    }

    private static void rules() {
        check.fault("pass ;", 2, 5);
        check.fault("pass", 2, 4);
        check.fault("pass yes no;", 2, 9);
        check.fault("pass -1;", 2, 5);
        check.fault("pass 1-1;", 0, -1);
        check.fault("pass 1+;", 2, 7);
        check.fault("pass (1;", 2, 7);
        check.fault("pass 1);", 2, 6);
        check.fault("pass ();", 2, 6);
        check.fault("pass 1<2=3;", 2, 8);
        check.fault("pass (1<2)=3;", 0, -1);
        check.fault("pass 1=not 1;", 2, 7);
        check.fault("pass 1 and not 1 or not not 1;", 0, -1);
        check.fault("pass 2*not 1;", 2, 7);
        check.fault("pass 2*(not 1);", 0, -1);
        check.fault("pass not;", 2, 8);
        check.fault("pass or 1;", 2, 5);
        check.fault("pass yes>no and here;", 0, -1);
        check.fault("pass p;", 2, 5);
        check.fault("pass (((((((1)))))));", 0, -1);
        check.fault("pass ((((((((1))))))));", 2, 12);
        check.fault("pass not not not not not not not 1;", 0, -1);
        check.fault("pass not not not not not not not not 1;", 2, 33);
        check.fault("pass not(not(not(not 1)));", 0, -1);
        check.fault("pass not(not(not(not(1))));", 2, 20);
        check.fault("pass ((((((not 1))))));", 0, -1);
        check.fault("pass (((((((not 1)))))));", 2, 12);
        check.fault("pass not not not not not not not (1);", 2, 33);
        StringBuilder forty = new StringBuilder("pass 1");
        for (int i = 0; i < 39; i++) {
            forty.append("+1");
        }
        check.fault(forty + ";", 0, -1);
        check.due("40 units", Check.sitting(forty + ";").about(10), 40);
        check.fault(forty + "+1;", 2, forty.length() + 1);
        check.fault(forty + "+(1);", 2, forty.length() + 1);
        check.fault(forty + " or not 1;", 2, forty.length() + 8);
        check.fault("pass (" + forty.substring(5) + ");", 2, forty.length());
        check.due("units of brackets", Check.sitting("pass ((yes)+2)*3;").about(10), 5);
    }
}
