import java.util.Arrays;

/**
 * A council with fewer seats than men: who sits may vote, who stands may speak.
 *
 * <p>The numbered promises of DOC.md are the public methods, in their order. No method throws: a
 * call that can't be is answered with NONE, GAP, -2 or false, as the document says of it.
 */
public final class NineChairs {

    public static final int NONE = -1;
    public static final int GAP = -1000000;

    private static final int NO_SUCH = -2;

    private static final int TAPE_LIMIT = 1700;
    private static final int CHAIR_LIMIT = 6;
    private static final int MAN_LIMIT = 6;
    private static final int MATTER_LIMIT = 4;
    private static final int WISH_LIMIT = 24;
    private static final int DEAL_LIMIT = 4;
    private static final int UNIT_LIMIT = 40;
    private static final int DEPTH_LIMIT = 6;
    private static final int MINUTE_LIMIT = 10000;
    private static final int STAY_LIMIT = 200;
    private static final int KEPT_MINUTES = 200;
    private static final int PLAN_LIMIT = 40;
    private static final int FLOOR_LIMIT = 200;
    private static final int TALKER_LIMIT = 3;
    private static final int TALKER_STRONG = 15;
    private static final int BOX_LIMIT = 3;

    private final Tape tape = new Tape();
    private final Reader reader;
    private final Sitting now;
    private final Sitting[] boxes = new Sitting[BOX_LIMIT];
    private final boolean[] filled = new boolean[BOX_LIMIT];
    private final Planner planner;
    private final Book book = new Book();
    private Hall told = new Hall();
    private Hall spare = new Hall();

    // ---- Promise 1: a new object

    public NineChairs() {
        reader = new Reader(tape, spare);
        now = new Sitting(told);
        planner = new Planner(told);
        for (int i = 0; i < BOX_LIMIT; i++) {
            boxes[i] = new Sitting(told);
        }
    }

    // ---- Promises 2 to 5: the TAPE and the HALL

    public int feed(int a, int b, int c, int d, int e) {
        if (!tape.hasRoomForFive()) {
            return NONE;
        }
        tape.put(a);
        tape.put(b);
        tape.put(c);
        tape.put(d);
        tape.put(e);
        return tape.length;
    }

    public int end(int n) {
        if (n < 0 || n > tape.length) {
            return NONE;
        }
        tape.length = n;
        return n;
    }

    public int hall() {
        boolean read = reader.read(spare);
        tape.length = 0;
        if (!read) {
            return NONE;
        }
        Hall before = told;
        told = spare;
        spare = before;
        now.begin(told);
        book.clear();
        for (int i = 0; i < BOX_LIMIT; i++) {
            filled[i] = false;
        }
        return told.men.count;
    }

    public int fault(int what) {
        switch (what) {
            case 0:
                return reader.fault;
            case 1:
                return reader.faultPlace;
            default:
                return NONE;
        }
    }

    // ---- Promises 6 to 13: ACTS, and what comes without one

    public int rise(int man) {
        return now.standUp(man);
    }

    public int sit(int man, int chair) {
        return now.sitDown(man, chair);
    }

    public int speak(int man, int matter) {
        return now.speakFor(man, matter);
    }

    public int vote(int matter) {
        return now.voteOn(matter);
    }

    public int enter(int man) {
        return now.comeIn(man);
    }

    public int stay(int minutes) {
        return now.idle(minutes);
    }

    public int crack(int chair, boolean broken) {
        return now.setBroken(chair, broken);
    }

    public boolean found(int chair) {
        return now.findStool(chair);
    }

    // ---- Promises 14 to 19: what there is, and what is kept

    public int man(int man, int what) {
        if (!told.men.has(man)) {
            return NO_SUCH;
        }
        switch (what) {
            case 0:
                return now.posture(man);
            case 1:
                return Math.max(now.where[man], NONE);
            case 2:
                return now.tired[man];
            case 3:
                return now.satFor[man];
            case 4:
                return now.naps(man) ? 1 : 0;
            case 5:
                return now.spoken[man];
            default:
                return NO_SUCH;
        }
    }

    public int chair(int chair, int what) {
        if (!told.chairs.has(chair)) {
            return NO_SUCH;
        }
        switch (what) {
            case 0:
                return now.sitters(chair);
            case 1:
                return now.broken >> chair & 1;
            case 2:
                return now.foundOut >> chair & 1;
            default:
                return NO_SUCH;
        }
    }

    public int matter(int matter, int what) {
        if (!told.matters.has(matter)) {
            return GAP;
        }
        switch (what) {
            case 0:
                return now.status[matter];
            case 1:
                return told.worth[matter];
            case 2:
                return Integer.bitCount(now.yesMen(matter));
            case 3:
                return Integer.bitCount(now.noMen(matter));
            default:
                return GAP;
        }
    }

    public int deal(int deal) {
        return now.dealState(deal);
    }

    public int voted(int i, int what) {
        return now.voteFact(i, what);
    }

    public int sat(int chair, int minute) {
        return now.keptSitters(chair, minute);
    }

    // ---- Promises 20 to 24: what could be

    public int best(int minutes, int what) {
        if (!isPlanTime(minutes) || what < 0 || what > 1) {
            return NONE;
        }
        int worth = bestWith(now.inHall(), minutes);
        return what == 0 ? worth : planner.soonest;
    }

    public int fewest(int minutes) {
        if (!isPlanTime(minutes)) {
            return NONE;
        }
        int here = now.inHall();
        int all = Integer.bitCount(here);
        int seated = now.onSeats();
        int most = planner.search(now, here, seated, all, minutes);
        for (int seats = 0; seats < all; seats++) {
            if (planner.search(now, here, firstOf(seated, seats), seats, minutes) >= most) {
                return seats;
            }
        }
        return all;
    }

    public int lets(int man, int minutes) {
        if (!isPlanTime(minutes) || !now.isAtDoor(man)) {
            return GAP;
        }
        int here = now.inHall();
        return bestWith(here | 1 << man, minutes) - bestWith(here, minutes);
    }

    public int floor(int men) {
        return now.floorTime(men);
    }

    public int could(int matter, int yes, int no, int what) {
        if (!told.matters.has(matter) || yes < 0 || no < 0 || what < 0 || what > 2) {
            return NONE;
        }
        int sets = 0;
        int inAll = (1 << told.men.count) - 1;
        int inAny = 0;
        int seats = now.seats();
        for (int men = 0; men < 1 << told.men.count; men++) {
            if (Integer.bitCount(men) <= seats
                    && Integer.bitCount(men & told.likes[matter]) == yes
                    && Integer.bitCount(men & told.dislikes[matter]) == no) {
                sets++;
                inAll &= men;
                inAny |= men;
            }
        }
        if (what == 0) {
            return sets;
        }
        return what == 2 ? inAny : sets == 0 ? 0 : inAll;
    }

    // ---- Promises 25 to 28: ENTRIES

    public int entry(int vote, int man, int said) {
        if (!told.men.has(man)) {
            return NONE;
        }
        return book.tell(vote, man, said);
    }

    public boolean untell(int entry) {
        return book.takeBack(entry);
    }

    public int later(int by) {
        return book.goOn(by);
    }

    public int judge(int what, int k) {
        switch (what) {
            case 0:
                return book.countFalse(now, k);
            case 1:
                return book.countStood(now, k);
            case 2:
                return book.firstFalse(now, k);
            default:
                return NONE;
        }
    }

    // ---- Promises 29 to 31: images, and about

    public int image(int box) {
        if (box < 0 || box >= BOX_LIMIT) {
            return NONE;
        }
        boxes[box].copy(now);
        filled[box] = true;
        return now.minutes;
    }

    public int back(int box) {
        if (box < 0 || box >= BOX_LIMIT || !filled[box]) {
            return NONE;
        }
        now.copy(boxes[box]);
        return now.minutes;
    }

    public int about(int what) {
        switch (what) {
            case 0:
                return told.chairs.count;
            case 1:
                return told.men.count;
            case 2:
                return told.matters.count;
            case 3:
                return told.wishes;
            case 4:
                return told.deals;
            case 5:
                return now.minutes;
            case 6:
                return now.votes;
            case 7:
                return book.count;
            case 8:
                return book.time;
            case 9:
                return tape.length;
            case 10:
                return told.rule.units;
            case 11:
                return now.seats();
            case 12:
                return now.sank;
            default:
                return NONE;
        }
    }

    private static boolean isPlanTime(int minutes) {
        return minutes >= 0 && minutes <= PLAN_LIMIT;
    }

    private int bestWith(int here, int minutes) {
        return planner.search(now, here, now.onSeats(), now.seats(), minutes);
    }

    private static int firstOf(int men, int n) {
        int first = 0;
        int taken = 0;
        for (int man = 0; man < MAN_LIMIT; man++) {
            if ((men >> man & 1) != 0 && taken < n) {
                first |= 1 << man;
                taken++;
            }
        }
        return first;
    }

    /** The bytes that were fed. */
    private static final class Tape {
        final byte[] bytes = new byte[TAPE_LIMIT];
        int length;

        boolean hasRoomForFive() {
            return length + 20 <= TAPE_LIMIT;
        }

        void put(int four) {
            for (int shift = 24; shift >= 0; shift -= 8) {
                if (length < TAPE_LIMIT) {
                    bytes[length] = (byte) (four >> shift);
                    length++;
                }
            }
        }
    }

    /** The NAMES of one sort, numbered as told; each is held as one number, five bits a letter. */
    private static final class Names {
        final long[] names;
        int count;

        Names(int limit) {
            names = new long[Math.max(limit, 0)];
        }

        boolean isFull() {
            return count >= names.length;
        }

        boolean has(int i) {
            return i >= 0 && i < count;
        }

        int find(long name) {
            for (int i = 0; i < count && i < names.length; i++) {
                if (names[i] == name) {
                    return i;
                }
            }
            return NONE;
        }

        void add(long name) {
            if (!isFull()) {
                names[count] = name;
                count++;
            }
        }
    }

    /** What a text told: it does not change while the council sits. */
    private static final class Hall {
        final Names chairs = new Names(CHAIR_LIMIT);
        final Names men = new Names(MAN_LIMIT);
        final Names matters = new Names(MATTER_LIMIT);
        final int[] holds = new int[CHAIR_LIMIT];
        int stools;
        final int[] strong = new int[MAN_LIMIT];
        int doorMen;
        final int[] dies = new int[MATTER_LIMIT];
        final int[] worth = new int[MATTER_LIMIT];
        final int[] likes = new int[MATTER_LIMIT];
        final int[] dislikes = new int[MATTER_LIMIT];
        final int[] wished = new int[MATTER_LIMIT];
        int wishes;
        final int[] dealMan = new int[DEAL_LIMIT];
        final int[] dealMatter = new int[DEAL_LIMIT];
        final int[] otherMan = new int[DEAL_LIMIT];
        final int[] otherMatter = new int[DEAL_LIMIT];
        int deals;
        int nap;
        final Rule rule = new Rule();

        void clear() {
            chairs.count = 0;
            men.count = 0;
            matters.count = 0;
            stools = 0;
            doorMen = 0;
            wishes = 0;
            deals = 0;
            nap = 0;
            rule.clear();
        }

        void addChair(long name, int places, boolean stool) {
            if (chairs.isFull()) {
                return;
            }
            holds[chairs.count] = places;
            if (stool) {
                stools |= 1 << chairs.count;
            }
            chairs.add(name);
        }

        void addMan(long name, int strength, boolean door) {
            if (men.isFull()) {
                return;
            }
            strong[men.count] = strength;
            if (door) {
                doorMen |= 1 << men.count;
            }
            men.add(name);
        }

        void addMatter(long name, int minute) {
            if (matters.isFull()) {
                return;
            }
            int i = matters.count;
            dies[i] = minute;
            worth[i] = 0;
            likes[i] = 0;
            dislikes[i] = 0;
            wished[i] = 0;
            matters.add(name);
        }

        boolean isWished(int man, int matter) {
            return matters.has(matter) && (wished[matter] >> man & 1) != 0;
        }

        void addWish(int man, int matter, int value) {
            if (!men.has(man) || !matters.has(matter)) {
                return;
            }
            wishes++;
            wished[matter] |= 1 << man;
            worth[matter] += value;
            if (value > 0) {
                likes[matter] |= 1 << man;
            }
            if (value < 0) {
                dislikes[matter] |= 1 << man;
            }
        }

        void addDeal(int man, int matter, int other, int others) {
            if (deals >= DEAL_LIMIT || !men.has(man) || !matters.has(matter)
                    || !men.has(other) || !matters.has(others)) {
                return;
            }
            dealMan[deals] = man;
            dealMatter[deals] = matter;
            otherMan[deals] = other;
            otherMatter[deals] = others;
            deals++;
        }

        boolean isStool(int chair) {
            return chairs.has(chair) && (stools >> chair & 1) != 0;
        }

        /** MEN who have a DEAL for the MATTER among those DEALS (as bits) that are DUE. */
        int boundMen(int matter, int due) {
            int bound = 0;
            for (int i = 0; i < deals && i < DEAL_LIMIT; i++) {
                if (dealMatter[i] == matter && (due >> i & 1) != 0) {
                    bound |= 1 << dealMan[i];
                }
            }
            return bound;
        }
    }

    /** The rule of votes, as steps behind their operands. */
    private static final class Rule {
        /** Steps below it are numbers, those from it on are tokens. */
        static final int STEP = 10000;
        /** 40 units, what joins them, and 7 nots before each, with room to spare. */
        static final int STEP_LIMIT = 400;

        final int[] steps = new int[STEP_LIMIT];
        final int[] stack = new int[UNIT_LIMIT + 2];
        int length;
        int units;
        boolean isTold;

        Rule() {
            clear();
        }

        /** The rule that holds if none is told: yes > no. */
        void clear() {
            isTold = false;
            units = 0;
            steps[0] = STEP + Reader.YES;
            steps[1] = STEP + Reader.NO;
            steps[2] = STEP + '>';
            length = 3;
        }

        void begin() {
            isTold = true;
            units = 0;
            length = 0;
        }

        void addNumber(int n) {
            if (length < STEP_LIMIT) {
                steps[length] = n;
                length++;
            }
        }

        void addToken(int token) {
            addNumber(STEP + token);
        }

        boolean passes(int yes, int no, int sits, int stands) {
            int top = 0;
            for (int i = 0; i < length && i < STEP_LIMIT; i++) {
                int step = steps[i];
                if (step == STEP + Reader.NOT) {
                    if (top >= 1) {
                        stack[top - 1] = stack[top - 1] == 0 ? 1 : 0;
                    }
                } else if (isOperand(step)) {
                    if (top < stack.length) {
                        stack[top] = operand(step, yes, no, sits, stands);
                        top++;
                    }
                } else if (top >= 2) {
                    top--;
                    stack[top - 1] = join(step - STEP, stack[top - 1], stack[top]);
                }
            }
            return top >= 1 && stack[top - 1] != 0;
        }

        private static boolean isOperand(int step) {
            return step < STEP || step >= STEP + Reader.YES && step <= STEP + Reader.HERE;
        }

        private static int operand(int step, int yes, int no, int sits, int stands) {
            switch (step - STEP) {
                case Reader.YES:
                    return yes;
                case Reader.NO:
                    return no;
                case Reader.SITS:
                    return sits;
                case Reader.STANDS:
                    return stands;
                case Reader.HERE:
                    return sits + stands;
                default:
                    return step;
            }
        }

        private static int join(int token, int left, int right) {
            switch (token) {
                case Reader.OR:
                    return left != 0 || right != 0 ? 1 : 0;
                case Reader.AND:
                    return left != 0 && right != 0 ? 1 : 0;
                case '<':
                    return left < right ? 1 : 0;
                case '>':
                    return left > right ? 1 : 0;
                case '=':
                    return left == right ? 1 : 0;
                case '+':
                    return left + right;
                case '-':
                    return left - right;
                default:
                    return left * right;
            }
        }
    }

    /**
     * Reads a text into a HALL. It goes from left to right and keeps the first FAULT; behind one,
     * every step does nothing.
     */
    private static final class Reader {
        static final int NO_TOKEN = 1;
        static final int CANT_STAND = 2;
        static final int TOLD_ALREADY = 3;
        static final int CANT_BE = 4;
        static final int NONE_SUCH = 5;

        // Tokens: a sign is its own byte, a word that stands for itself its place in WORDS.
        static final int END = 0;
        static final int NAME = 1;
        static final int NUMBER = 2;
        static final int CHAIR = 128;
        static final int HOLDS = 129;
        static final int STOOL = 130;
        static final int MAN = 131;
        static final int STRONG = 132;
        static final int DOOR = 133;
        static final int MATTER = 134;
        static final int DIES = 135;
        static final int WISH = 136;
        static final int DEAL = 137;
        static final int FOR = 138;
        static final int NAP = 139;
        static final int PASS = 140;
        static final int OR = 141;
        static final int AND = 142;
        static final int NOT = 143;
        static final int YES = 144;
        static final int NO = 145;
        static final int SITS = 146;
        static final int STANDS = 147;
        static final int HERE = 148;
        static final int WORD_COUNT = 21;
        static final String WORDS =
                "chair holds stool man strong door matter dies wish deal for nap pass or and not yes no sits stands here ";
        static final String SIGNS = ";-()<>=+*";

        static final int WORD_LENGTH = 8;
        static final int NUMBER_LENGTH = 4;

        // Levels of e, the loosest first: or, and, a relation or not, a sum, a term, a unit.
        static final int LEVEL_OR = 0;
        static final int LEVEL_AND = 1;
        static final int LEVEL_ONE = 2;
        static final int LEVEL_SUM = 3;
        static final int LEVEL_TERM = 4;
        static final int LEVEL_UNIT = 5;

        private final Tape tape;
        private final Names words = new Names(WORD_COUNT);
        private Hall hall;
        private int at;
        private int token;
        private int place;
        private int number;
        private long name;
        int fault;
        int faultPlace = NONE;

        Reader(Tape tape, Hall hall) {
            this.tape = tape;
            this.hall = hall;
            long code = 0;
            for (int i = 0; i < WORDS.length(); i++) {
                char c = WORDS.charAt(i);
                if (c == ' ') {
                    words.add(code);
                    code = 0;
                } else {
                    code = withLetter(code, c);
                }
            }
        }

        boolean read(Hall into) {
            hall = into;
            hall.clear();
            at = 0;
            fault = 0;
            faultPlace = NONE;
            next();
            for (int i = 0; i <= TAPE_LIMIT && fault == 0 && token != END; i++) {
                line();
            }
            return fault == 0;
        }

        // -- tokens

        private static long withLetter(long code, int letter) {
            return code << 5 | letter - 'a' + 1;
        }

        /** The byte at i, or 0, which is part of no token, where there is none. */
        private int byteAt(int i) {
            return i >= 0 && i < tape.length && i < TAPE_LIMIT ? tape.bytes[i] & 255 : 0;
        }

        private void next() {
            if (fault != 0) {
                return;
            }
            while (at < tape.length && (byteAt(at) == ' ' || byteAt(at) == '\n')) {
                at++;
            }
            place = at;
            int c = byteAt(at);
            if (at >= tape.length) {
                token = END;
            } else if (c >= 'a' && c <= 'z') {
                readWord();
            } else if (c >= '0' && c <= '9') {
                readNumber();
            } else if (c < 128 && SIGNS.indexOf((char) c) >= 0) {
                token = c;
                at++;
            } else {
                refuse(NO_TOKEN);
            }
        }

        private void readWord() {
            name = 0;
            int c = byteAt(at);
            while (at < tape.length && c >= 'a' && c <= 'z') {
                name = withLetter(name, c);
                at++;
                c = byteAt(at);
            }
            if (at - place > WORD_LENGTH) {
                refuseAt(NO_TOKEN, place);
                return;
            }
            int known = words.find(name);
            token = known >= 0 ? CHAIR + known : NAME;
        }

        private void readNumber() {
            number = 0;
            int c = byteAt(at);
            while (at < tape.length && c >= '0' && c <= '9') {
                number = number * 10 + c - '0';
                at++;
                c = byteAt(at);
            }
            token = NUMBER;
            if (at - place > NUMBER_LENGTH || c >= 'a' && c <= 'z') {
                refuseAt(NO_TOKEN, place);
            }
        }

        // -- what every line is made of

        private void refuse(int kind) {
            refuseAt(kind, place);
        }

        private void refuseAt(int kind, int where) {
            if (fault == 0) {
                fault = kind;
                faultPlace = where;
            }
        }

        private void take(int wanted) {
            if (token == wanted) {
                next();
            } else {
                refuse(CANT_STAND);
            }
        }

        private boolean takeIf(int wanted) {
            if (token != wanted) {
                return false;
            }
            next();
            return true;
        }

        private int takeNumber(int least, int most) {
            if (token != NUMBER) {
                refuse(CANT_STAND);
            } else if (number < least || number > most) {
                refuse(CANT_BE);
            }
            int n = number;
            next();
            return n;
        }

        private int takeWorth() {
            int first = place;
            boolean minus = token == '-';
            if (minus) {
                next();
            }
            if (token != NUMBER) {
                refuse(CANT_STAND);
            } else if (number > 99) {
                refuseAt(CANT_BE, first);
            }
            int n = number;
            next();
            return minus ? -n : n;
        }

        private long takeNewName(Names names) {
            if (token != NAME) {
                refuse(CANT_STAND);
            } else if (names.find(name) >= 0) {
                refuse(TOLD_ALREADY);
            }
            long taken = name;
            next();
            return taken;
        }

        /** The number of the NAME that stands here; it is not taken yet: more may be asked of it. */
        private int toldName(Names names) {
            if (token != NAME) {
                refuse(CANT_STAND);
                return NONE;
            }
            int i = names.find(name);
            if (i < 0) {
                refuse(NONE_SUCH);
            }
            return i;
        }

        // -- lines

        private void line() {
            switch (token) {
                case CHAIR:
                    chairLine();
                    break;
                case MAN:
                    manLine();
                    break;
                case MATTER:
                    matterLine();
                    break;
                case WISH:
                    wishLine();
                    break;
                case DEAL:
                    dealLine();
                    break;
                case NAP:
                    napLine();
                    break;
                case PASS:
                    startLine(hall.rule.isTold);
                    hall.rule.begin();
                    expression(LEVEL_OR, 0);
                    break;
                default:
                    refuse(CANT_STAND);
                    break;
            }
            take(';');
        }

        private void startLine(boolean tooMany) {
            if (tooMany) {
                refuse(CANT_STAND);
            }
            next();
        }

        private void chairLine() {
            startLine(hall.chairs.isFull());
            long chair = takeNewName(hall.chairs);
            take(HOLDS);
            int places = takeNumber(1, 2);
            boolean stool = takeIf(STOOL);
            if (fault == 0) {
                hall.addChair(chair, places, stool);
            }
        }

        private void manLine() {
            startLine(hall.men.isFull());
            long man = takeNewName(hall.men);
            take(STRONG);
            int strength = takeNumber(1, 30);
            boolean door = takeIf(DOOR);
            if (fault == 0) {
                hall.addMan(man, strength, door);
            }
        }

        private void matterLine() {
            startLine(hall.matters.isFull());
            long matter = takeNewName(hall.matters);
            take(DIES);
            int minute = takeNumber(1, 999);
            if (fault == 0) {
                hall.addMatter(matter, minute);
            }
        }

        private void wishLine() {
            startLine(hall.wishes >= WISH_LIMIT);
            int man = toldName(hall.men);
            next();
            int matter = toldName(hall.matters);
            if (hall.isWished(man, matter)) {
                refuse(TOLD_ALREADY);
            }
            next();
            int value = takeWorth();
            if (fault == 0) {
                hall.addWish(man, matter, value);
            }
        }

        private void dealLine() {
            startLine(hall.deals >= DEAL_LIMIT);
            int man = toldName(hall.men);
            next();
            int matter = toldName(hall.matters);
            next();
            take(FOR);
            int other = toldName(hall.men);
            if (other == man) {
                refuse(TOLD_ALREADY);
            }
            next();
            int others = toldName(hall.matters);
            if (others == matter) {
                refuse(TOLD_ALREADY);
            }
            next();
            if (fault == 0) {
                hall.addDeal(man, matter, other, others);
            }
        }

        private void napLine() {
            startLine(hall.nap != 0);
            int minutes = takeNumber(1, 99);
            if (fault == 0) {
                hall.nap = minutes;
            }
        }

        // -- e

        /** Reads a part of e of one level; depth: within how many ( e ) and nots it stands. */
        private void expression(int level, int depth) {
            if (fault != 0) {
                return;
            }
            if (level >= LEVEL_UNIT) {
                unit(depth);
                return;
            }
            if (level == LEVEL_ONE && token == NOT) {
                negation(depth);
                return;
            }
            expression(level + 1, depth);
            boolean more = isJoint(level);
            for (int i = 0; i <= UNIT_LIMIT && more && fault == 0; i++) {
                int joint = token;
                next();
                expression(level + 1, depth);
                hall.rule.addToken(joint);
                more = level != LEVEL_ONE && isJoint(level);
            }
        }

        private boolean isJoint(int level) {
            switch (level) {
                case LEVEL_OR:
                    return token == OR;
                case LEVEL_AND:
                    return token == AND;
                case LEVEL_ONE:
                    return token == '<' || token == '>' || token == '=';
                case LEVEL_SUM:
                    return token == '+' || token == '-';
                default:
                    return token == '*';
            }
        }

        private void negation(int depth) {
            if (depth > DEPTH_LIMIT) {
                refuse(CANT_STAND);
                return;
            }
            next();
            expression(LEVEL_ONE, depth + 1);
            hall.rule.addToken(NOT);
        }

        private void unit(int depth) {
            boolean counts = token >= YES && token <= HERE;
            boolean fits = hall.rule.units < UNIT_LIMIT && (token != '(' || depth <= DEPTH_LIMIT);
            if (!fits || token != NUMBER && token != '(' && !counts) {
                refuse(CANT_STAND);
                return;
            }
            hall.rule.units++;
            if (token == '(') {
                next();
                expression(LEVEL_OR, depth + 1);
                if (token != ')') {
                    refuse(CANT_STAND);
                }
            } else if (counts) {
                hall.rule.addToken(token);
            } else {
                hall.rule.addNumber(number);
            }
            next();
        }
    }

    /** How the council sits: all that an image keeps. */
    private static final class Sitting {
        static final int STANDS = -1;
        static final int AT_DOOR = -2;

        static final int OPEN = 0;
        static final int SPOKEN = 1;
        static final int PASSED = 2;
        static final int LOST = 3;

        static final int DUE = 1;
        static final int KEPT = 2;
        static final int BROKEN = 3;

        /** What voted() tells of a VOTE. */
        static final int FACTS = 6;
        /** A MATTER has one VOTE at most, so all VOTES there can be are among the first 100. */
        static final int VOTE_LIMIT = MATTER_LIMIT;

        Hall hall;
        int minutes;
        int votes;
        int sank;
        int broken;
        int foundOut;
        /** Each MAN's CHAIR, or STANDS, or AT_DOOR. */
        final int[] where = new int[MAN_LIMIT];
        final int[] tired = new int[MAN_LIMIT];
        final int[] satFor = new int[MAN_LIMIT];
        final int[] spoken = new int[MAN_LIMIT];
        final int[] status = new int[MATTER_LIMIT];
        /** KEPT, BROKEN, or 0 while there was no VOTE on it. */
        final int[] dealEnd = new int[DEAL_LIMIT];
        final int[] voteFacts = new int[VOTE_LIMIT * FACTS];
        /** A number a MINUTE: who sat, six bits a CHAIR. */
        final long[] seatRows = new long[KEPT_MINUTES];

        Sitting(Hall hall) {
            begin(hall);
        }

        void begin(Hall newHall) {
            hall = newHall;
            minutes = 0;
            votes = 0;
            sank = 0;
            broken = 0;
            foundOut = 0;
            for (int i = 0; i < MAN_LIMIT; i++) {
                where[i] = (hall.doorMen >> i & 1) != 0 ? AT_DOOR : STANDS;
            }
            Arrays.fill(tired, 0);
            Arrays.fill(satFor, 0);
            Arrays.fill(spoken, 0);
            Arrays.fill(status, OPEN);
            Arrays.fill(dealEnd, 0);
        }

        void copy(Sitting from) {
            hall = from.hall;
            minutes = from.minutes;
            votes = from.votes;
            sank = from.sank;
            broken = from.broken;
            foundOut = from.foundOut;
            System.arraycopy(from.where, 0, where, 0, MAN_LIMIT);
            System.arraycopy(from.tired, 0, tired, 0, MAN_LIMIT);
            System.arraycopy(from.satFor, 0, satFor, 0, MAN_LIMIT);
            System.arraycopy(from.spoken, 0, spoken, 0, MAN_LIMIT);
            System.arraycopy(from.status, 0, status, 0, MATTER_LIMIT);
            System.arraycopy(from.dealEnd, 0, dealEnd, 0, DEAL_LIMIT);
            System.arraycopy(from.voteFacts, 0, voteFacts, 0, VOTE_LIMIT * FACTS);
            System.arraycopy(from.seatRows, 0, seatRows, 0, KEPT_MINUTES);
        }

        // -- ACTS

        int standUp(int man) {
            if (!hall.men.has(man) || where[man] < 0 || !hasTime(1)) {
                return NONE;
            }
            place(man, STANDS);
            return overMinute();
        }

        int sitDown(int man, int chair) {
            if (!stands(man) || !hasPlace(chair) || !hasTime(1)) {
                return NONE;
            }
            place(man, chair);
            return overMinute();
        }

        int speakFor(int man, int matter) {
            if (!stands(man) || tired[man] >= hall.strong[man] || !isAlive(matter) || !hasTime(1)) {
                return NONE;
            }
            status[matter] = SPOKEN;
            spoken[man] |= 1 << matter;
            return overMinute();
        }

        int voteOn(int matter) {
            if (!hall.matters.has(matter) || status[matter] != SPOKEN || !hasTime(1)) {
                return NONE;
            }
            int yes = yesMen(matter);
            int no = noMen(matter);
            int sit = Integer.bitCount(inChairs());
            int stand = Integer.bitCount(inHall()) - sit;
            boolean passed = hall.rule.passes(
                    Integer.bitCount(yes), Integer.bitCount(no), sit, stand);
            endDeals(matter, yes);
            status[matter] = passed ? PASSED : LOST;
            keepVote(matter, yes, no);
            overMinute();
            return passed ? 1 : 0;
        }

        int comeIn(int man) {
            if (!isAtDoor(man) || !hasTime(1)) {
                return NONE;
            }
            place(man, STANDS);
            return overMinute();
        }

        int idle(int n) {
            if (n < 0 || n > STAY_LIMIT || !hasTime(n)) {
                return NONE;
            }
            for (int i = 0; i < n; i++) {
                overMinute();
            }
            return minutes;
        }

        private boolean hasTime(int n) {
            return minutes + n <= MINUTE_LIMIT;
        }

        private void place(int man, int spot) {
            where[man] = spot;
            satFor[man] = 0;
        }

        private void endDeals(int matter, int yes) {
            int due = dueDeals();
            for (int i = 0; i < hall.deals && i < DEAL_LIMIT; i++) {
                if (hall.dealMatter[i] == matter && (due >> i & 1) != 0) {
                    dealEnd[i] = (yes >> hall.dealMan[i] & 1) != 0 ? KEPT : BROKEN;
                }
            }
        }

        private void keepVote(int matter, int yes, int no) {
            if (votes < VOTE_LIMIT) {
                int row = votes * FACTS;
                voteFacts[row] = minutes + 1;
                voteFacts[row + 1] = matter;
                voteFacts[row + 2] = yes;
                voteFacts[row + 3] = no;
                voteFacts[row + 4] = allMen() & ~inChairs();
                voteFacts[row + 5] = status[matter] == PASSED ? 1 : 0;
            }
            votes++;
        }

        // -- the end of a MINUTE

        private int overMinute() {
            minutes++;
            for (int i = 0; i < hall.matters.count; i++) {
                if (isAlive(i) && hall.dies[i] == minutes) {
                    status[i] = LOST;
                }
            }
            for (int man = 0; man < hall.men.count; man++) {
                tireOrRest(man);
            }
            for (int man = 0; man < hall.men.count; man++) {
                if (where[man] == STANDS && tired[man] >= hall.strong[man]) {
                    sink(man);
                }
            }
            keepSeats();
            return minutes;
        }

        private void tireOrRest(int man) {
            if (where[man] == STANDS) {
                tired[man] = Math.min(tired[man] + 1, hall.strong[man]);
            } else if (where[man] >= 0) {
                tired[man] = Math.max(tired[man] - 2, 0);
                satFor[man]++;
            }
        }

        private void sink(int man) {
            for (int chair = 0; chair < hall.chairs.count; chair++) {
                if (hasPlace(chair)) {
                    place(man, chair);
                    sank++;
                    return;
                }
            }
        }

        private void keepSeats() {
            if (minutes < 1 || minutes > KEPT_MINUTES) {
                return;
            }
            long row = 0;
            for (int man = 0; man < hall.men.count; man++) {
                if (where[man] >= 0) {
                    row |= 1L << where[man] * MAN_LIMIT + man;
                }
            }
            seatRows[minutes - 1] = row;
        }

        // -- without an ACT

        int setBroken(int chair, boolean breaks) {
            if (!hall.chairs.has(chair) || isBroken(chair) == breaks) {
                return NONE;
            }
            broken ^= 1 << chair;
            int sat = 0;
            for (int man = 0; man < hall.men.count; man++) {
                if (where[man] == chair) {
                    place(man, STANDS);
                    sat++;
                }
            }
            return sat;
        }

        boolean findStool(int chair) {
            if (!hall.isStool(chair) || isFound(chair)) {
                return false;
            }
            foundOut |= 1 << chair;
            return true;
        }

        // -- what there is

        boolean isAtDoor(int man) {
            return hall.men.has(man) && where[man] == AT_DOOR;
        }

        private boolean stands(int man) {
            return hall.men.has(man) && where[man] == STANDS;
        }

        int posture(int man) {
            return where[man] == AT_DOOR ? 2 : where[man] == STANDS ? 0 : 1;
        }

        boolean naps(int man) {
            return where[man] >= 0 && hall.nap > 0 && satFor[man] >= hall.nap;
        }

        private boolean isBroken(int chair) {
            return (broken >> chair & 1) != 0;
        }

        private boolean isFound(int chair) {
            return (foundOut >> chair & 1) != 0;
        }

        private boolean hasPlace(int chair) {
            return hall.chairs.has(chair) && !isBroken(chair)
                    && Integer.bitCount(sitters(chair)) < hall.holds[chair];
        }

        boolean isAlive(int matter) {
            return hall.matters.has(matter)
                    && (status[matter] == OPEN || status[matter] == SPOKEN);
        }

        int sitters(int chair) {
            int men = 0;
            for (int man = 0; man < hall.men.count; man++) {
                if (where[man] == chair) {
                    men |= 1 << man;
                }
            }
            return men;
        }

        private int allMen() {
            return (1 << hall.men.count) - 1;
        }

        int inHall() {
            return allMen() & ~sitters(AT_DOOR);
        }

        private int inChairs() {
            return inHall() & ~sitters(STANDS);
        }

        /** Places that count: of whole CHAIRS that are no stools FOUND. */
        int seats() {
            int places = 0;
            for (int chair = 0; chair < hall.chairs.count; chair++) {
                if (!isBroken(chair) && !isFound(chair)) {
                    places += hall.holds[chair];
                }
            }
            return places;
        }

        int onSeats() {
            int men = inChairs();
            for (int chair = 0; chair < hall.chairs.count; chair++) {
                if (isFound(chair)) {
                    men &= ~sitters(chair);
                }
            }
            return men;
        }

        // -- VOTES and DEALS

        /** DEALS whose other MAN has spoken for the other MATTER, as bits. */
        int dueDeals() {
            int due = 0;
            for (int i = 0; i < hall.deals && i < DEAL_LIMIT; i++) {
                if ((spoken[hall.otherMan[i]] >> hall.otherMatter[i] & 1) != 0) {
                    due |= 1 << i;
                }
            }
            return due;
        }

        int dealState(int deal) {
            if (deal < 0 || deal >= hall.deals || deal >= DEAL_LIMIT) {
                return NONE;
            }
            return dealEnd[deal] != 0 ? dealEnd[deal] : (dueDeals() >> deal & 1) * DUE;
        }

        private int voters() {
            int men = onSeats();
            for (int man = 0; man < hall.men.count; man++) {
                if (naps(man)) {
                    men &= ~(1 << man);
                }
            }
            return men;
        }

        int yesMen(int matter) {
            return voters() & (hall.likes[matter] | hall.boundMen(matter, dueDeals()));
        }

        int noMen(int matter) {
            return voters() & hall.dislikes[matter] & ~hall.boundMen(matter, dueDeals());
        }

        // -- the floor

        /**
         * Who has sat a MINUTE is less TIRED than he is strong, and a speaker is so again as soon as
         * he has: two take turns for ever, if one can begin. Only one alone comes to an end.
         */
        int floorTime(int men) {
            int count = Integer.bitCount(men);
            if (count < 1 || count > TALKER_LIMIT || (men & ~inHall()) != 0) {
                return NONE;
            }
            int longest = 0;
            for (int man = 0; man < hall.men.count; man++) {
                if ((men >> man & 1) != 0) {
                    if (hall.strong[man] > TALKER_STRONG) {
                        return NONE;
                    }
                    longest = Math.max(longest, hall.strong[man] - tired[man]);
                }
            }
            return count > 1 && longest > 0 ? FLOOR_LIMIT : longest;
        }

        // -- what is kept

        int voteFact(int i, int what) {
            if (!isKept(i) || what < 0 || what >= FACTS) {
                return NONE;
            }
            return voteFacts[i * FACTS + what];
        }

        boolean isKept(int i) {
            return i >= 0 && i < votes && i < VOTE_LIMIT;
        }

        /** What a MAN said in a VOTE that is kept: 1 yes, -1 no, 0 nothing. */
        int saidIn(int i, int man) {
            return (voteFact(i, 2) >> man & 1) - (voteFact(i, 3) >> man & 1);
        }

        boolean stoodIn(int i, int man) {
            return (voteFact(i, 4) >> man & 1) != 0;
        }

        int keptSitters(int chair, int minute) {
            if (!hall.chairs.has(chair) || minute < 1 || minute > KEPT_MINUTES
                    || minute > minutes) {
                return NONE;
            }
            return (int) (seatRows[minute - 1] >>> chair * MAN_LIMIT) & (1 << MAN_LIMIT) - 1;
        }
    }

    /**
     * Looks for the PLAN of most WORTH.
     *
     * <p>Only passing a MATTER of WORTH above 0, a GOAL, is of use, and speaking for one, or for a
     * MATTER by which a DEAL for a GOAL becomes DUE, a LINK. What was done of these is a key: bits
     * of GOALS PASSED, of GOALS SPOKEN for, of LINKS that are DUE, from high to low. For each key
     * one long holds all sets of sitters (a set of six MEN is a number below 64) there can be with
     * it. To be somewhere sooner is never worse, so what was reached stays reached, and a MINUTE
     * in which nothing more is reached is the last that counts: later ones allow no more than it.
     */
    private static final class Planner {
        /** For each MAN the sets of sitters he is not in. */
        static final long[] WITHOUT = {
            0x5555555555555555L, 0x3333333333333333L, 0x0F0F0F0F0F0F0F0FL,
            0x00FF00FF00FF00FFL, 0x0000FFFF0000FFFFL, 0x00000000FFFFFFFFL
        };
        static final int KEY_LIMIT = 1 << 2 * MATTER_LIMIT + DEAL_LIMIT;
        static final int DUE_SETS = 1 << DEAL_LIMIT;
        static final int SIDE = MAN_LIMIT + 1;

        private final long[] reach = new long[KEY_LIMIT];
        /** By GOAL and LINKS that are DUE: the sets of sitters by which a VOTE passes it. */
        private final long[] passing = new long[MATTER_LIMIT * DUE_SETS];
        /** By how many yes, no, and sitters: whether a VOTE passes. */
        private final boolean[] verdicts = new boolean[SIDE * SIDE * SIDE];
        private final int[] goals = new int[MATTER_LIMIT];
        private final int[] goalOf = new int[MATTER_LIMIT];
        private final int[] links = new int[DEAL_LIMIT];
        /** By MAN and MATTER: the LINKS that are DUE by his speaking for it. */
        private final int[] linksBy = new int[MAN_LIMIT * MATTER_LIMIT];
        /** By MATTER: how many MINUTES there are yet before it dies; 0 if it is over. */
        private final int[] lasts = new int[MATTER_LIMIT];
        private Hall hall;
        private int goalCount;
        private int linkCount;
        private int here;
        private long fitting;
        private int most;
        private boolean grows;
        int soonest;

        Planner(Hall hall) {
            this.hall = hall;
        }

        /** BEST with these MEN in the hall, those seated of them, and so many seats. */
        int search(Sitting sitting, int men, int seated, int seats, int minutes) {
            hall = sitting.hall;
            here = men;
            most = 0;
            soonest = 0;
            int hoped = findGoals(sitting);
            if (hoped == 0 || minutes == 0) {
                return 0;
            }
            findLinks();
            fillFitting(seats);
            fillVerdicts();
            fillPassing();
            int keys = 1 << 2 * goalCount + linkCount;
            for (int key = 0; key < keys && key < KEY_LIMIT; key++) {
                reach[key] = 0;
            }
            reach[startKey(sitting)] = 1L << seated & fitting;
            grows = true;
            for (int done = 0; done < minutes && most < hoped && grows; done++) {
                grows = false;
                // A step leads to the same key or a higher one, which has had its turn.
                for (int key = keys - 1; key >= 0; key--) {
                    if (reach[key] != 0) {
                        step(key, done);
                    }
                }
            }
            return most;
        }

        private int findGoals(Sitting sitting) {
            int hoped = 0;
            goalCount = 0;
            for (int matter = 0; matter < hall.matters.count; matter++) {
                boolean alive = sitting.isAlive(matter);
                lasts[matter] = alive ? hall.dies[matter] - sitting.minutes : 0;
                goalOf[matter] = NONE;
                if (alive && hall.worth[matter] > 0) {
                    goalOf[matter] = goalCount;
                    goals[goalCount] = matter;
                    goalCount++;
                    hoped += hall.worth[matter];
                }
            }
            return hoped;
        }

        private void findLinks() {
            linkCount = 0;
            Arrays.fill(linksBy, 0);
            for (int deal = 0; deal < hall.deals; deal++) {
                if (goalOf[hall.dealMatter[deal]] >= 0) {
                    int by = hall.otherMan[deal] * MATTER_LIMIT + hall.otherMatter[deal];
                    linksBy[by] |= 1 << linkCount;
                    links[linkCount] = deal;
                    linkCount++;
                }
            }
        }

        private void fillFitting(int seats) {
            fitting = 0;
            for (int set = 0; set < 1 << MAN_LIMIT; set++) {
                if ((set & ~here) == 0 && Integer.bitCount(set) <= seats) {
                    fitting |= 1L << set;
                }
            }
        }

        private void fillVerdicts() {
            int all = Integer.bitCount(here);
            for (int sits = 0; sits <= all; sits++) {
                for (int yes = 0; yes <= sits; yes++) {
                    for (int no = 0; no <= sits - yes; no++) {
                        verdicts[(yes * SIDE + no) * SIDE + sits] =
                                hall.rule.passes(yes, no, sits, all - sits);
                    }
                }
            }
        }

        private void fillPassing() {
            for (int goal = 0; goal < goalCount; goal++) {
                for (int due = 0; due < 1 << linkCount; due++) {
                    passing[goal * DUE_SETS + due] = passingSets(goals[goal], dealsOf(due));
                }
            }
        }

        private long passingSets(int matter, int dueDeals) {
            int bound = hall.boundMen(matter, dueDeals);
            int yesMen = hall.likes[matter] | bound;
            int noMen = hall.dislikes[matter] & ~bound;
            long sets = 0;
            for (int set = 0; set < 1 << MAN_LIMIT; set++) {
                int yes = Integer.bitCount(set & yesMen);
                int no = Integer.bitCount(set & noMen);
                if ((fitting >>> set & 1) != 0
                        && verdicts[(yes * SIDE + no) * SIDE + Integer.bitCount(set)]) {
                    sets |= 1L << set;
                }
            }
            return sets;
        }

        private int dealsOf(int due) {
            int deals = 0;
            for (int link = 0; link < linkCount; link++) {
                if ((due >> link & 1) != 0) {
                    deals |= 1 << links[link];
                }
            }
            return deals;
        }

        private int startKey(Sitting sitting) {
            int key = 0;
            for (int goal = 0; goal < goalCount; goal++) {
                if (sitting.status[goals[goal]] == Sitting.SPOKEN) {
                    key |= spokenBit(goal);
                }
            }
            int due = sitting.dueDeals();
            for (int link = 0; link < linkCount; link++) {
                if ((due >> links[link] & 1) != 0) {
                    key |= 1 << link;
                }
            }
            return key;
        }

        private int spokenBit(int goal) {
            return 1 << linkCount + goal;
        }

        private int passedBit(int goal) {
            return 1 << linkCount + goalCount + goal;
        }

        private void step(int key, int done) {
            long sets = reach[key];
            long moved = sets;
            for (int man = 0; man < MAN_LIMIT; man++) {
                if ((here >> man & 1) != 0) {
                    long stands = sets & WITHOUT[man];
                    moved |= stands << (1 << man) | (sets ^ stands) >>> (1 << man);
                }
            }
            add(key, moved & fitting);
            for (int matter = 0; matter < hall.matters.count; matter++) {
                if (done < lasts[matter]) {
                    speakStep(key, sets, matter);
                    voteStep(key, sets, matter, done);
                }
            }
        }

        private void add(int key, long sets) {
            if ((sets & ~reach[key]) != 0) {
                reach[key] |= sets;
                grows = true;
            }
        }

        private void speakStep(int key, long sets, int matter) {
            int goal = goalOf[matter];
            if (goal >= 0 && (key & passedBit(goal)) != 0) {
                return;
            }
            int spoken = goal >= 0 ? key | spokenBit(goal) : key;
            for (int man = 0; man < MAN_LIMIT; man++) {
                int to = spoken | linksBy[man * MATTER_LIMIT + matter];
                if (to != key && (here >> man & 1) != 0) {
                    add(to, sets & WITHOUT[man]);
                }
            }
        }

        private void voteStep(int key, long sets, int matter, int done) {
            int goal = goalOf[matter];
            if (goal < 0 || (key & spokenBit(goal)) == 0 || (key & passedBit(goal)) != 0) {
                return;
            }
            int due = key & (1 << linkCount) - 1;
            long passes = sets & passing[goal * DUE_SETS + due];
            if (passes == 0) {
                return;
            }
            int to = key | passedBit(goal);
            add(to, passes);
            int worth = worthOf(to);
            if (worth > most) {
                most = worth;
                soonest = done + 1;
            }
        }

        private int worthOf(int key) {
            int worth = 0;
            for (int goal = 0; goal < goalCount; goal++) {
                if ((key & passedBit(goal)) != 0) {
                    worth += hall.worth[goals[goal]];
                }
            }
            return worth;
        }
    }

    /** The ENTRIES, and the TIME. */
    private static final class Book {
        static final int ENTRY_LIMIT = 40;
        static final int NAMED_VOTES = 100;
        static final int STEP_LIMIT = 1000;
        static final int TIME_LIMIT = 100000;

        private final int[] votes = new int[ENTRY_LIMIT];
        private final int[] men = new int[ENTRY_LIMIT];
        private final int[] words = new int[ENTRY_LIMIT];
        private final int[] toldAt = new int[ENTRY_LIMIT];
        /** NONE while it is not UNTOLD. */
        private final int[] untoldAt = new int[ENTRY_LIMIT];
        int count;
        int time;

        void clear() {
            count = 0;
        }

        int tell(int vote, int man, int said) {
            if (vote < 0 || vote >= NAMED_VOTES || said < -1 || said > 1 || count >= ENTRY_LIMIT) {
                return NONE;
            }
            votes[count] = vote;
            men[count] = man;
            words[count] = said;
            toldAt[count] = time;
            untoldAt[count] = NONE;
            count++;
            return count - 1;
        }

        boolean takeBack(int i) {
            if (i < 0 || i >= count || i >= ENTRY_LIMIT || untoldAt[i] != NONE) {
                return false;
            }
            untoldAt[i] = time;
            return true;
        }

        int goOn(int by) {
            if (by < 0 || by > STEP_LIMIT || time + by > TIME_LIMIT) {
                return NONE;
            }
            time += by;
            return time;
        }

        int countFalse(Sitting sitting, int k) {
            int n = 0;
            for (int i = 0; i < count; i++) {
                if (isFalse(sitting, i, k)) {
                    n++;
                }
            }
            return n;
        }

        int countStood(Sitting sitting, int k) {
            int n = 0;
            for (int i = 0; i < count; i++) {
                if (isJudged(sitting, i, k) && words[i] != 0
                        && sitting.stoodIn(votes[i], men[i])) {
                    n++;
                }
            }
            return n;
        }

        int firstFalse(Sitting sitting, int k) {
            for (int i = 0; i < count; i++) {
                if (isFalse(sitting, i, k)) {
                    return i;
                }
            }
            return NONE;
        }

        private boolean isFalse(Sitting sitting, int i, int k) {
            return isJudged(sitting, i, k) && sitting.saidIn(votes[i], men[i]) != words[i];
        }

        /** Whether it counts as known at k, and is of a VOTE that is kept. */
        private boolean isJudged(Sitting sitting, int i, int k) {
            return toldAt[i] <= k && (untoldAt[i] == NONE || untoldAt[i] > k)
                    && sitting.isKept(votes[i]);
        }
    }
}
