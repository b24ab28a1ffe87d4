/** Terms 1 and promises 1 to 5: a test of its own for each sentence that names a boundary case. */
public final class HallEdgeTest {
    private static final Check check = new Check("HallEdgeTest");
    private static final String TWO =
            "man p strong 1;man q strong 1;matter x dies 1;matter y dies 1;";
    private static final int N = TWO.length();
    private static final String CHAIR = "chair c holds 2;";
    private static final String[] WORDS = {"chair", "holds", "stool", "man", "strong", "door", "matter",
        "dies", "wish", "deal", "for", "nap", "pass", "or", "and", "not", "yes", "no", "sits", "stands", "here"};

    public static void main(String[] args) {
        run().end();
    }

    static Check run() {
        check.sentence("An object is used for at most 512 calls after it has been made", HallEdgeTest::lastCall);
        check.sentence("NONE = -1: There is none", () -> constant("NONE", -1));
        check.sentence("GAP = -1000000: No number is there", () -> constant("GAP", -1000000));
        check.sentence("A HALL is a text of at most 1,700 bytes", HallEdgeTest::longestText);
        check.sentence("(empty at first)", HallEdgeTest::emptyAtFirst);
        check.sentence("hall = {line}", HallEdgeTest::noLines);
        check.sentence("words (a .. z, 8 at most)", HallEdgeTest::words);
        check.sentence("N (1 to 4 digits)", HallEdgeTest::numbers);
        check.sentence("signs ; - ( ) < > = + *", HallEdgeTest::everyByte);
        check.sentence("blanks (32, 10) part them or not", HallEdgeTest::blanks);
        check.sentence("each is as long as can be", HallEdgeTest::asLongAsCanBe);
        check.sentence("no letter directly behind an N", HallEdgeTest::letterBehindNumber);
        check.sentence("Words that stand for themselves here are no NAMES", HallEdgeTest::noNames);
        check.sentence("At most 6 CHAIRS", HallEdgeTest::sixChairs);
        check.sentence("holds 1, 2", HallEdgeTest::holds);
        check.sentence("6 MEN", HallEdgeTest::sixMen);
        check.sentence("strong 1 .. 30", HallEdgeTest::strong);
        check.sentence("4 MATTERS", HallEdgeTest::fourMatters);
        check.sentence("dies 1 .. 999", HallEdgeTest::dies);
        check.sentence("24 wishes", HallEdgeTest::wishes);
        check.sentence("V -99 .. 99", HallEdgeTest::worths);
        check.sentence("0 if not told", HallEdgeTest::noWish);
        check.sentence("4 DEALS", HallEdgeTest::fourDeals);
        check.sentence("numbered as told", HallEdgeTest::numberedAsTold);
        check.sentence("nap (1 .. 99", HallEdgeTest::nap);
        check.sentence("none if not told", HallEdgeTest::noNap);
        check.sentence("pass (yes > no)", HallEdgeTest::noPass);
        check.sentence("nap .., pass .. once each", HallEdgeTest::onceEach);
        check.sentence("40 units in all", HallEdgeTest::fortyUnits);
        check.sentence("a unit ( e ), or a one behind not, within 6 others at most", HallEdgeTest::within);
        check.sentence("one = not one | sum [(< | > | =) sum]", HallEdgeTest::oneRelation);
        check.sentence("FAULTS, the first by its place", HallEdgeTest::firstByPlace);
        check.sentence("bytes from 0", HallEdgeTest::bytesFromZero);
        check.sentence("the end: the text's length", HallEdgeTest::theEnd);
        check.sentence("of V its place is that of its sign, if it has one", HallEdgeTest::placeOfWorth);
        check.sentence("at one place the least", HallEdgeTest::theLeast);
        check.sentence("2 one that can't stand there", HallEdgeTest::cantStand);
        check.sentence("one of a sort too many .. at the line's first word", HallEdgeTest::tooMany);
        check.sentence("3 a NAME told already (of its sort)", HallEdgeTest::nameToldAlready);
        check.sentence("a wish told already (at the MATTER)", HallEdgeTest::wishToldAlready);
        check.sentence("a deal's second MAN like its first", HallEdgeTest::sameMan);
        check.sentence("or its second MATTER like its first (there)", HallEdgeTest::sameMatter);
        check.sentence("5 a NAME that is none of the kind that must stand there (told ahead)", HallEdgeTest::noSuchName);
        promises();
        return check;
    }

    private static void promises() {
        check.sentence("1: An empty HALL", HallEdgeTest::newObject);
        check.sentence("2: of each number the highest first", HallEdgeTest::byteOrder);
        check.sentence("2: how many there are", HallEdgeTest::fedSoMany);
        check.sentence("2: NONE, and nothing comes, if there would be more than 1,700", HallEdgeTest::fedTooMany);
        check.sentence("3: The TAPE has its first n bytes: n", HallEdgeTest::endKeepsFirst);
        check.sentence("3: NONE, doing nothing, if it has not so many", HallEdgeTest::endTooFar);
        check.sentence("3: or n is below 0", HallEdgeTest::endBelowZero);
        check.sentence("4: The TAPE (empty then) is the HALL", HallEdgeTest::hallEmptiesTape);
        check.sentence("4: no MINUTES, nothing kept, ENTRIES are none, BOXES are empty then", HallEdgeTest::hallForgets);
        check.sentence("4: the TIME stays", HallEdgeTest::timeStays);
        check.sentence("4: how many MEN", HallEdgeTest::howManyMen);
        check.sentence("4: NONE: a FAULT (all stays)", HallEdgeTest::allStays);
        check.sentence("5: its FAULT (0), 1: its place (NONE)", HallEdgeTest::faultOfTheLatest);
        check.sentence("5: NONE for another what", HallEdgeTest::faultOfAnotherWhat);
    }

    private static void good(String text) {
        check.fault(text, 0, -1);
    }

    private static String blanks(int n) {
        return " ".repeat(n);
    }

    /** As many lines as asked for, with names a, b, .. */
    private static String lines(String first, String rest, int n) {
        StringBuilder all = new StringBuilder();
        for (int i = 0; i < n; i++) {
            all.append(first).append((char) ('a' + i)).append(rest);
        }
        return all.toString();
    }

    // ---- the face

    private static void lastCall() {
        NineChairs x = new NineChairs();
        for (int i = 1; i <= 511; i++) {
            check.due("call " + i, x.stay(1), i);
        }
        check.due("call 512", x.about(5), 511);
    }

    /** By its name: a test compiled before would have the number of then. */
    private static void constant(String name, int want) {
        try {
            check.due(name, NineChairs.class.getField(name).getInt(null), want);
        } catch (ReflectiveOperationException e) {
            throw new IllegalStateException(e);
        }
    }

    // ---- the text

    private static void longestText() {
        good(blanks(1694) + "nap 5;");
        NineChairs x = Check.sitting(blanks(1685) + "man p strong 3;");
        check.due("MEN of the longest text", x.about(1), 1);
        check.fault(blanks(1694) + "nap 5$", 1, 1699);
        check.fault(blanks(1695) + "nap 5", 2, 1700);
        check.due("a text of 1,701", Check.feed(new NineChairs(), blanks(1701)), -1);
    }

    private static void emptyAtFirst() {
        NineChairs x = new NineChairs();
        int[] sorts = {0, 1, 2, 3, 4, 10, 11};
        for (int what : sorts) {
            check.due("about(" + what + ")", x.about(what), 0);
        }
        check.due("man(0, 0)", x.man(0, 0), -2);
        check.due("chair(0, 0)", x.chair(0, 0), -2);
        check.due("matter(0, 0)", x.matter(0, 0), -1000000);
        check.due("deal(0)", x.deal(0), -1);
    }

    private static void noLines() {
        good("");
        good("\n");
        good(blanks(1700));
        check.fault(";", 2, 0);
    }

    // ---- TOKENS

    private static void words() {
        good("man a strong 1;");
        good("man z strong 1;");
        good("man abcdefgh strong 1;");
        good("man zzzzzzzz strong 1;man zzzzzzzy strong 1;man zzzzzzz strong 1;");
        good("man p strong 1;man ap strong 1;man pa strong 1;man pp strong 1;man app strong 1;man appppppp strong 1;");
        check.fault("man abcdefghi strong 1;", 1, 4);
        check.fault("man " + "z".repeat(1000) + " strong 1;", 1, 4);
        // The bytes beside a and z, and large letters, are no part of words.
        check.fault("man a`", 1, 5);
        check.fault("man a{", 1, 5);
        check.fault("man A", 1, 4);
        check.fault("man Z", 1, 4);
    }

    private static void numbers() {
        good("nap 1;");
        good("nap 0001;");
        good("pass 9999;");
        check.fault("nap 00001;", 1, 4);
        check.fault("pass 10000;", 1, 5);
        check.fault("pass " + "9".repeat(1000) + ";", 1, 5);
        // The bytes beside 0 and 9.
        check.fault("nap 1/", 1, 5);
        check.fault("nap 1:", 1, 5);
        good("nap 09;");
        good("nap 90;");
    }

    private static void everyByte() {
        for (int c = 0; c < 256; c++) {
            boolean blank = c == 32 || c == 10;
            boolean token = c >= 'a' && c <= 'z' || c >= '0' && c <= '9' || ";-()<>=+*".indexOf(c) >= 0;
            check.fault("" + (char) c, blank ? 0 : token ? 2 : 1, blank ? -1 : 0);
        }
        good("pass(1-2)*3<4 and 1>2 or 1=2+3;");
    }

    private static void blanks() {
        good("nap 5;");
        good("nap\n5;");
        good("nap5;");
        good(" \n nap \n\n 5 \n ; \n");
        good("pass not(yes)and here;");
        check.fault("nap\t5;", 1, 3);
        check.fault("nap\r5;", 1, 3);
        check.fault("nap" + (char) 11 + "5;", 1, 3);
        check.fault("nap" + (char) 31 + "5;", 1, 3);
        check.fault("nap" + (char) 0 + "5;", 1, 3);
        check.fault("nap" + (char) 160 + "5;", 1, 3);
    }

    private static void asLongAsCanBe() {
        check.fault("chairc holds 1;", 2, 0);
        check.fault("napnap 1;", 2, 0);
        check.fault("pass notyes;", 2, 5);
        check.fault("pass yes or no or nor;", 2, 18);
        check.fault("nap 100;", 4, 4);
        check.fault("nap 10 0;", 2, 7);
        good("man chairs strong 1;man chai strong 1;");
    }

    private static void letterBehindNumber() {
        check.fault("nap 5a", 1, 4);
        check.fault("nap 5z;", 1, 4);
        check.fault("pass 1and 1;", 1, 5);
        check.fault("chair c holds 2stool;", 1, 14);
        check.fault("pass 1234a;", 1, 5);
        good("chair c holds 2 stool;");
        good("pass 1\nand 1;");
        good("pass(1)and 1;");
    }

    private static void noNames() {
        String told = "chair x holds 1;man x strong 1;man y strong 1;matter x dies 1;matter y dies 1;";
        int n = told.length();
        for (String word : WORDS) {
            check.fault("chair " + word + " holds 1;", 2, 6);
            check.fault("man " + word + " strong 1;", 2, 4);
            check.fault("matter " + word + " dies 1;", 2, 7);
            check.fault(told + "wish " + word, 2, n + 5);
            check.fault(told + "wish x " + word, 2, n + 7);
            check.fault(told + "deal x x for y " + word, 2, n + 15);
            good("man " + word.substring(1) + "q strong 1;");
        }
    }

    // ---- how many, and which numbers

    private static void sixChairs() {
        String six = lines("chair ", " holds 2;", 6);
        good(six);
        check.due("CHAIRS", Check.sitting(six).about(0), 6);
        check.fault(six + "chair z holds 2;", 2, six.length());
    }

    private static void holds() {
        good("chair c holds 1;");
        good("chair c holds 2;");
        check.fault("chair c holds 0;", 4, 14);
        check.fault("chair c holds 3;", 4, 14);
        check.fault("chair c holds 9999;", 4, 14);
        check.fault("chair c holds 0 stool;", 4, 14);
    }

    private static void sixMen() {
        String six = lines("man ", " strong 2;", 6);
        check.due("MEN", Check.sitting(six).about(1), 6);
        check.fault(six + "man z strong 2;", 2, six.length());
    }

    private static void strong() {
        good("man p strong 1;");
        good("man p strong 30;");
        check.fault("man p strong 0;", 4, 13);
        check.fault("man p strong 31;", 4, 13);
        check.fault("man p strong 9999 door;", 4, 13);
    }

    private static void fourMatters() {
        String four = lines("matter ", " dies 2;", 4);
        check.due("MATTERS", Check.sitting(four).about(2), 4);
        check.fault(four + "matter z dies 2;", 2, four.length());
    }

    private static void dies() {
        good("matter x dies 1;");
        good("matter x dies 999;");
        check.fault("matter x dies 0;", 4, 14);
        check.fault("matter x dies 1000;", 4, 14);
        NineChairs x = Check.sitting("matter x dies 999;");
        for (int i = 0; i < 4; i++) {
            x.stay(200);
        }
        x.stay(198);
        check.due("after 998 MINUTES", x.matter(0, 0), 0);
        x.stay(1);
        check.due("after 999 MINUTES", x.matter(0, 0), 3);
    }

    private static String allWishes() {
        StringBuilder all = new StringBuilder(lines("man ", " strong 2;", 6)).append(lines("matter ", " dies 2;", 4));
        for (int i = 0; i < 24; i++) {
            all.append("wish ").append((char) ('a' + i / 4)).append(' ').append((char) ('a' + i % 4)).append(" 1;");
        }
        return all.toString();
    }

    private static void wishes() {
        String all = allWishes();
        check.due("wishes", Check.sitting(all).about(3), 24);
        check.due("wishes of the last MATTER", Check.sitting(all).matter(3, 1), 6);
        check.fault(all + "wish a a 1;", 2, all.length());
        check.fault(all + "wish", 2, all.length());
    }

    private static void worths() {
        NineChairs x = Check.sitting(TWO + "wish p x -99;wish p y 99;wish q y 0;wish q x -0;");
        check.due("the least", x.matter(0, 1), -99);
        check.due("the most", x.matter(1, 1), 99);
        check.fault(TWO + "wish p x 100;", 4, N + 9);
        check.fault(TWO + "wish p x -100;", 4, N + 9);
        check.fault(TWO + "wish p x 9999;", 4, N + 9);
        check.fault(TWO + "wish p x -9999;", 4, N + 9);
    }

    private static void noWish() {
        NineChairs x = Check.sitting("chair c holds 2;man p strong 9;man q strong 9;matter x dies 99;wish p x 7;");
        x.sit(1, 0);
        check.due("matter(0, 1)", x.matter(0, 1), 7);
        check.due("yes of one without a wish", x.matter(0, 2), 0);
        check.due("no of one without a wish", x.matter(0, 3), 0);
        // Nothing is left of wishes in HALLS before.
        String wishes = "wish p x 7;wish q x -7;";
        NineChairs y = Check.sitting(CHAIR + TWO + wishes);
        Check.feed(y, CHAIR + TWO + wishes);
        y.hall();
        Check.feed(y, CHAIR + TWO);
        y.hall();
        y.sit(0, 0);
        check.due("matter(0, 1) in a new HALL", y.matter(0, 1), 0);
        check.due("yes in a new HALL", y.matter(0, 2), 0);
        y.rise(0);
        y.sit(1, 0);
        check.due("no in a new HALL", y.matter(0, 3), 0);
    }

    private static void fourDeals() {
        String deal = "deal p x for q y;";
        check.due("DEALS", Check.sitting(TWO + deal.repeat(4)).about(4), 4);
        check.due("the last DEAL", Check.sitting(TWO + deal.repeat(4)).deal(3), 0);
        check.fault(TWO + deal.repeat(5), 2, N + 4 * deal.length());
    }

    private static void numberedAsTold() {
        NineChairs x = Check.sitting("chair z holds 2;chair a holds 1;man z strong 4;man a strong 2;matter z dies 8;matter a dies 2;"
                + "deal z z for a a;deal a a for z z;");
        check.due("strong of the first MAN", x.floor(1), 4);
        check.due("strong of the second MAN", x.floor(2), 2);
        x.crack(1, true);
        check.due("SEATS of the first CHAIR", x.about(11), 2);
        x.speak(1, 1);
        check.due("the first DEAL", x.deal(0), 1);
        check.due("the second DEAL", x.deal(1), 0);
        x.stay(1);
        check.due("the first MATTER", x.matter(0, 0), 0);
        check.due("the second MATTER", x.matter(1, 0), 3);
    }

    private static void nap() {
        good("nap 1;");
        good("nap 99;");
        check.fault("nap 0;", 4, 4);
        check.fault("nap 100;", 4, 4);
        check.fault("nap 0000;", 4, 4);
    }

    private static void noNap() {
        NineChairs x = Check.sitting("chair c holds 1;man p strong 9;");
        x.sit(0, 0);
        check.due("after a MINUTE", x.man(0, 4), 0);
        x.stay(200);
        check.due("after 201 MINUTES", x.man(0, 4), 0);
    }

    private static void noPass() {
        String told = "chair c holds 2;man p strong 9;man q strong 9;matter x dies 99;wish p x 1;wish q x -1;";
        NineChairs x = Check.sitting(told);
        check.due("units", x.about(10), 0);
        x.speak(0, 0);
        x.sit(0, 0);
        x.image(0);
        check.due("one yes, no no", x.vote(0), 1);
        x.back(0);
        x.sit(1, 0);
        x.image(0);
        check.due("one yes, one no", x.vote(0), 0);
        x.back(0);
        x.rise(0);
        check.due("no yes, one no", x.vote(0), 0);
    }

    private static void onceEach() {
        good("nap 1;pass 1;");
        good("pass 1;nap 1;");
        check.fault("nap 1;nap 1;", 2, 6);
        check.fault("pass 1;pass 1;", 2, 7);
        check.fault("pass 1;nap 1;pass 1;", 2, 13);
        check.fault("nap 1;pass 1;nap", 2, 13);
    }

    // ---- e

    private static void fortyUnits() {
        String forty = "pass 1" + "+1".repeat(39);
        NineChairs x = Check.sitting(forty + ";");
        check.due("units", x.about(10), 40);
        check.fault(forty + "+1;", 2, forty.length() + 1);
        check.fault(forty + " and yes;", 2, forty.length() + 5);
        check.fault(forty + "*(1);", 2, forty.length() + 1);
        // A not is no unit: what stands behind it is.
        check.fault(forty + " or not not 1;", 2, forty.length() + 12);
        // A unit ( e ) is one beside what is in it.
        String brackets = "pass (1)" + "*(1)".repeat(19);
        check.due("units in brackets", Check.sitting(brackets + ";").about(10), 40);
        check.fault(brackets + "+1;", 2, brackets.length() + 1);
        check.fault("pass (1" + "+1".repeat(39) + ");", 2, 84);
        check.due("one unit", Check.sitting("pass 0;").about(10), 1);
    }

    private static void within() {
        good("pass (((((((1)))))));");
        check.fault("pass ((((((((1))))))));", 2, 12);
        good("pass " + "not ".repeat(7) + "1;");
        check.fault("pass " + "not ".repeat(8) + "1;", 2, 33);
        good("pass " + "not ".repeat(6) + "(1);");
        check.fault("pass " + "not ".repeat(7) + "(1);", 2, 33);
        good("pass ((((((not 1))))));");
        check.fault("pass (((((((not 1)))))));", 2, 12);
        // What is closed is no other any more.
        good("pass (((((((1))))))) and (((((((1)))))));");
        good("pass " + "not ".repeat(7) + "1 and " + "not ".repeat(7) + "1;");
        check.fault("pass (((((((1))))))) and ((((((((1))))))));", 2, 32);
        // As many of both as there can be: 40 units, each behind 7 nots; the first is 0, the others 1.
        String nots = "not ".repeat(7);
        NineChairs x = Check.sitting("man p strong 9;matter x dies 9;pass " + nots + "1" + (" and " + nots + "0").repeat(39) + ";");
        check.due("units", x.about(10), 40);
        x.speak(0, 0);
        check.due("the longest rule", x.vote(0), 0);
    }

    private static void oneRelation() {
        good("pass 1<2;");
        check.fault("pass 1<2<3;", 2, 8);
        check.fault("pass 1=2>3;", 2, 8);
        good("pass (1<2)<3;");
        good("pass not 1<2;");
        check.fault("pass 1<not 2;", 2, 7);
        check.fault("pass 1+not 2;", 2, 7);
    }

    // ---- FAULTS

    private static void firstByPlace() {
        check.fault("nap 0$", 4, 4);
        check.fault("nap $0", 1, 4);
        check.fault("nap 0;nap 0;", 4, 4);
        check.fault("man p strong 31 man p", 4, 13);
        check.fault("man p strong 1;man p strong 31;", 3, 19);
        check.fault(TWO + "wish z z 100", 5, N + 5);
        check.fault(TWO + "wish p x 100$", 4, N + 9);
    }

    private static void bytesFromZero() {
        check.fault("$", 1, 0);
        check.fault("man", 2, 3);
        check.fault(" $", 1, 1);
        check.fault("5;", 2, 0);
    }

    private static void theEnd() {
        check.fault("nap 5", 2, 5);
        check.fault("nap 5  ", 2, 7);
        check.fault("nap\n", 2, 4);
        check.fault("pass (1", 2, 7);
        check.fault(TWO + "wish p x -", 2, N + 10);
        check.fault(TWO + "wish p x - ", 2, N + 11);
        check.fault("chair c holds 1 stool", 2, 21);
    }

    private static void placeOfWorth() {
        check.fault(TWO + "wish p x -100;", 4, N + 9);
        check.fault(TWO + "wish p x -  100;", 4, N + 9);
        check.fault(TWO + "wish p x\n 100;", 4, N + 10);
        check.fault(TWO + "wish p x --1;", 2, N + 10);
        check.fault(TWO + "wish p x -x;", 2, N + 10);
        check.fault(TWO + "wish p x -$", 1, N + 10);
        check.fault(TWO + "wish p x -10000;", 1, N + 10);
    }

    private static void theLeast() {
        // No TOKEN, where none of its sort could stand, or its number could not be.
        check.fault("nap 100a;", 1, 4);
        check.fault("nap 00000;", 1, 4);
        check.fault("chair 12345", 1, 6);
        check.fault("abcdefghi", 1, 0);
        // What can't stand there is of no kind, too.
        check.fault(TWO + "wish 5 x 1;", 2, N + 5);
        check.fault(TWO + "wish for x 1;", 2, N + 5);
        check.fault(TWO + "deal p x for q for", 2, N + 15);
    }

    private static void cantStand() {
        check.fault("stool", 2, 0);
        check.fault("p strong 1;", 2, 0);
        check.fault("chair c strong 1;", 2, 8);
        check.fault("man p holds 1;", 2, 6);
        check.fault("matter x strong 1;", 2, 9);
        check.fault("chair c holds 1 door;", 2, 16);
        check.fault("man p strong 1 stool;", 2, 15);
        check.fault("man p strong 1 door door;", 2, 20);
        check.fault("matter x dies 1 door;", 2, 16);
        check.fault("man p strong -1;", 2, 13);
        check.fault("nap 1;;", 2, 6);
        check.fault("nap 1 pass 1;", 2, 6);
        check.fault("man p strong 1 man q strong 1;", 2, 15);
        check.fault("pass ;", 2, 5);
        check.fault("pass ();", 2, 6);
        check.fault("pass 1);", 2, 6);
        check.fault("pass yes no;", 2, 9);
        check.fault("pass or;", 2, 5);
    }

    private static void tooMany() {
        String chairs = lines("chair ", " holds 1;", 6);
        String men = lines("man ", " strong 1;", 6);
        String matters = lines("matter ", " dies 1;", 4);
        String deal = "deal a a for b b;";
        check.fault(chairs + " \nchair a $", 2, chairs.length() + 2);
        check.fault(men + "man", 2, men.length());
        check.fault(matters + "matter 5", 2, matters.length());
        check.fault(men + matters + deal.repeat(4) + " deal z", 2, (men + matters).length() + 69);
        check.fault(allWishes() + "wish z", 2, allWishes().length());
    }

    private static void nameToldAlready() {
        check.fault("chair c holds 1;chair c holds 1;", 3, 22);
        check.fault("man p strong 1;man q strong 1;man p", 3, 34);
        check.fault("matter x dies 1;matter x dies 1;", 3, 23);
        good("chair x holds 1;man x strong 1;matter x dies 1;");
        String five = lines("man ", " strong 1;", 5);
        check.fault(five + "man e strong 1;", 3, five.length() + 4);
    }

    private static void wishToldAlready() {
        check.fault(TWO + "wish p x 0;wish p x 0;", 3, N + 18);
        check.fault(TWO + "wish p x 1;wish p x 100;", 3, N + 18);
        good(TWO + "wish p x 0;wish p y 0;wish q x 0;wish q y 0;");
        check.fault(TWO + "wish q y 1;wish p y 1;wish q y 1;", 3, N + 29);
    }

    private static void sameMan() {
        check.fault(TWO + "deal p x for p y;", 3, N + 13);
        check.fault(TWO + "deal q y for q x;", 3, N + 13);
        check.fault(TWO + "deal p x for p x;", 3, N + 13);
        good(TWO + "deal q x for p y;");
    }

    private static void sameMatter() {
        check.fault(TWO + "deal p x for q x;", 3, N + 15);
        check.fault(TWO + "deal q y for p y;", 3, N + 15);
        check.fault(TWO + "deal p y for q y;", 3, N + 15);
        good(TWO + "deal p y for q x;");
        good("man x strong 1;man y strong 1;matter x dies 1;matter y dies 1;deal x x for y y;");
    }

    private static void noSuchName() {
        check.fault("wish p x 1;man p strong 1;matter x dies 1;", 5, 5);
        check.fault("man p strong 1;wish p x 1;matter x dies 1;", 5, 22);
        check.fault(TWO + "wish x x 1;", 5, N + 5);
        check.fault(TWO + "wish p p 1;", 5, N + 7);
        check.fault(TWO + "deal x x for q y;", 5, N + 5);
        check.fault(TWO + "deal p q for q y;", 5, N + 7);
        check.fault(TWO + "deal p x for y y;", 5, N + 13);
        check.fault(TWO + "deal p x for q q;", 5, N + 15);
    }

    // ---- promises 1 to 5

    private static void newObject() {
        NineChairs x = new NineChairs();
        for (int what = 0; what <= 12; what++) {
            check.due("about(" + what + ")", x.about(what), 0);
        }
        check.due("rise(0)", x.rise(0), -1);
        check.due("vote(0)", x.vote(0), -1);
        check.due("best(40, 0)", x.best(40, 0), 0);
        check.due("fewest(40)", x.fewest(40), 0);
        check.due("could(0, 0, 0, 0)", x.could(0, 0, 0, 0), -1);
        check.due("entry(0, 0, 0)", x.entry(0, 0, 0), -1);
        check.due("stay(1)", x.stay(1), 1);
    }

    private static void byteOrder() {
        NineChairs x = new NineChairs();
        // "nap 9;pass 1;nap 9;#": each byte of each number has a place of its own.
        x.feed(0x6e617020, 0x393b7061, 0x73732031, 0x3b6e6170, 0x20393b23);
        x.hall();
        check.due("fault(0)", x.fault(0), 2);
        check.due("fault(1)", x.fault(1), 13);
        x.feed(0x6e617020, 0x393b7061, 0x73732031, 0x3b202020, 0x202020ff);
        x.hall();
        check.due("fault(0)", x.fault(0), 1);
        check.due("fault(1)", x.fault(1), 19);
    }

    private static void fedSoMany() {
        NineChairs x = new NineChairs();
        check.due("the first feed", x.feed(0, 0, 0, 0, 0), 20);
        x.end(7);
        check.due("feed behind 7", x.feed(0, 0, 0, 0, 0), 27);
        x.end(0);
        check.due("feed behind none", x.feed(0, 0, 0, 0, 0), 20);
    }

    private static void fedTooMany() {
        NineChairs x = new NineChairs();
        int blank = 0x20202020;
        for (int i = 1; i <= 85; i++) {
            check.due("feed " + i, x.feed(blank, blank, blank, blank, blank), 20 * i);
        }
        check.due("feed behind 1,700", x.feed(-1, -1, -1, -1, -1), -1);
        check.due("bytes", x.about(9), 1700);
        x.end(1681);
        check.due("feed behind 1,681", x.feed(-1, -1, -1, -1, -1), -1);
        check.due("bytes", x.about(9), 1681);
        check.due("hall() of blanks alone", x.hall(), 0);
        for (int i = 0; i < 85; i++) {
            x.feed(blank, blank, blank, blank, blank);
        }
        x.end(1680);
        check.due("feed behind 1,680", x.feed(blank, blank, blank, blank, -1), 1700);
        x.hall();
        check.due("the last of its bytes", x.fault(1), 1696);
    }

    private static void endKeepsFirst() {
        NineChairs x = new NineChairs();
        x.feed(0x6e617020, 0x353b2424, 0, 0, 0);
        check.due("end(20)", x.end(20), 20);
        check.due("end(6)", x.end(6), 6);
        check.due("bytes", x.about(9), 6);
        x.feed(0x70617373, 0x20313b00, 0, 0, 0);
        x.end(13);
        check.due("hall()", x.hall(), 0);
        check.due("units", x.about(10), 1);
        x.feed(0x24242424, 0, 0, 0, 0);
        check.due("end(0)", x.end(0), 0);
        check.due("hall() of none", x.hall(), 0);
        // "nap 5a", of which the letter is cut off: it is behind the N no more.
        x.feed(0x6e617020, 0x35616161, 0, 0, 0);
        x.end(5);
        x.hall();
        check.due("fault(0) at the new end", x.fault(0), 2);
        check.due("fault(1) at the new end", x.fault(1), 5);
    }

    private static void endTooFar() {
        NineChairs x = new NineChairs();
        check.due("end(1) of none", x.end(1), -1);
        x.feed(0, 0, 0, 0, 0);
        check.due("end(21)", x.end(21), -1);
        check.due("end(1700)", x.end(1700), -1);
        check.due("end(MAX)", x.end(Integer.MAX_VALUE), -1);
        check.due("bytes", x.about(9), 20);
        x.end(5);
        check.due("end(6), what was cut off", x.end(6), -1);
        check.due("bytes", x.about(9), 5);
    }

    private static void endBelowZero() {
        NineChairs x = new NineChairs();
        x.feed(0, 0, 0, 0, 0);
        check.due("end(-1)", x.end(-1), -1);
        check.due("end(MIN)", x.end(Integer.MIN_VALUE), -1);
        check.due("bytes", x.about(9), 20);
    }

    private static void hallEmptiesTape() {
        NineChairs x = new NineChairs();
        Check.feed(x, "man p strong 1;");
        x.hall();
        check.due("bytes behind a HALL", x.about(9), 0);
        check.due("end(1)", x.end(1), -1);
        Check.feed(x, "$");
        x.hall();
        check.due("bytes behind a FAULT", x.about(9), 0);
        check.due("hall() of none", x.hall(), 0);
        check.due("MEN", x.about(1), 0);
    }

    private static final String FULL = "chair c holds 2;chair d holds 1 stool;man p strong 3;man q strong 4;man r strong 9 door;"
            + "matter x dies 9;matter y dies 99;wish p x 5;wish q x -2;deal q x for p y;nap 2;pass yes+1>no;";

    /** A sitting of which as much as can be is no more as it was at first. */
    private static NineChairs gone() {
        NineChairs x = Check.sitting(FULL);
        x.speak(0, 0);
        x.speak(0, 1);
        x.sit(1, 0);
        x.vote(0);
        x.enter(2);
        x.found(1);
        x.crack(1, true);
        x.entry(0, 0, 1);
        x.later(7);
        x.image(0);
        x.image(1);
        x.image(2);
        return x;
    }

    private static void hallForgets() {
        NineChairs x = gone();
        Check.feed(x, FULL);
        x.hall();
        NineChairs fresh = Check.sitting(FULL);
        fresh.later(7);
        check.same("a HALL behind another", x, fresh);
        for (int box = 0; box < 3; box++) {
            check.due("back(" + box + ")", x.back(box), -1);
        }
        check.due("the first ENTRY", x.entry(0, 0, 1), 0);
    }

    private static void timeStays() {
        NineChairs x = gone();
        Check.feed(x, FULL);
        x.hall();
        check.due("the TIME behind a HALL", x.about(8), 7);
        x.hall();
        check.due("the TIME behind an empty one", x.about(8), 7);
        check.due("later(0)", x.later(0), 7);
    }

    private static void howManyMen() {
        NineChairs x = new NineChairs();
        check.due("of the empty TAPE", x.hall(), 0);
        for (int n = 1; n <= 6; n++) {
            Check.feed(x, lines("man ", n % 2 == 0 ? " strong 1;" : " strong 1 door;", n));
            check.due("of " + n, x.hall(), n);
        }
        Check.feed(x, "chair c holds 1;");
        check.due("of CHAIRS alone", x.hall(), 0);
    }

    private static void allStays() {
        NineChairs x = gone();
        Check.feed(x, "chair z holds 1;man z strong 9;man y strong 1;matter z dies 2;matter y dies 1;wish z z -9;"
                + "deal z z for y y;nap 1;pass 0;;");
        check.due("hall()", x.hall(), -1);
        String[] are = Facts.of(x);
        String[] were = Facts.of(gone());
        for (int i = 0; i < are.length - 2; i++) {
            check.due("with a FAULT " + are[i] + ", without " + were[i], are[i].equals(were[i]), true);
        }
        x.speak(2, 1);
        check.due("the rule of before", x.vote(1), 1);
        for (int box = 0; box < 3; box++) {
            check.due("back(" + box + ")", x.back(box), 5);
        }
    }

    private static void faultOfTheLatest() {
        NineChairs x = new NineChairs();
        check.due("fault(0) before any", x.fault(0), 0);
        check.due("fault(1) before any", x.fault(1), -1);
        Check.feed(x, " 5");
        check.due("fault(0) before hall()", x.fault(0), 0);
        x.hall();
        check.due("fault(0)", x.fault(0), 2);
        check.due("fault(1)", x.fault(1), 1);
        Check.feed(x, "nap 5;");
        check.due("fault(0) yet", x.fault(0), 2);
        x.hall();
        check.due("fault(0) of none", x.fault(0), 0);
        check.due("fault(1) of none", x.fault(1), -1);
    }

    private static void faultOfAnotherWhat() {
        NineChairs x = new NineChairs();
        Check.feed(x, "$");
        x.hall();
        check.due("fault(2)", x.fault(2), -1);
        check.due("fault(-1)", x.fault(-1), -1);
        check.due("fault(MAX)", x.fault(Integer.MAX_VALUE), -1);
        check.due("fault(MIN)", x.fault(Integer.MIN_VALUE), -1);
    }
}
