import java.util.ArrayList;
import java.util.Arrays;
import java.util.List;
import java.util.Random;

/** Runs of many calls, made by a fixed seed, on NineChairs and on the plain Model beside it. */
public final class ModelTest {
    private static final Check check = new Check("ModelTest");

    private final Random random;
    private final StringBuilder text = new StringBuilder();
    private final StringBuilder calls = new StringBuilder();
    private final NineChairs x = new NineChairs();
    private Model model = new Model();
    private final Model[] boxes = new Model[3];
    private final List<int[]> entries = new ArrayList<>();
    private int time;
    private boolean rich;
    private int units;
    private int wishes;

    private ModelTest(long seed) {
        random = new Random(seed);
    }

    public static void main(String[] args) {
        int runs = args.length > 0 ? Integer.parseInt(args[0]) : 80;
        int first = args.length > 1 ? Integer.parseInt(args[1]) : 1;
        for (int seed = first; seed < first + runs; seed++) {
            ModelTest test = new ModelTest(seed);
            for (int i = 0; i < 4; i++) {
                test.run(seed % 4 == 0);
                test.runPlans();
            }
        }
        check.end();
    }

    // ---- a HALL

    private void begin() {
        if (random.nextBoolean()) {
            // What was read of a text with a FAULT must not be left over.
            Check.feed(x, "man z strong 7 door;" + text + "pass 1;;");
            due("hall() with a fault", x.hall(), -1);
        }
        text.setLength(0);
        calls.setLength(0);
        model = new Model();
        Arrays.fill(boxes, null);
        entries.clear();
        units = 0;
        wishes = 0;
    }

    private void read() {
        Check.feed(x, text.toString());
        due("hall()", x.hall(), model.men.size());
    }

    /** A HALL in which DEALS count, and few ACTS before its PLANS. */
    private void runPlans() {
        begin();
        rich = true;
        makeHall(6, 4);
        rich = false;
        read();
        for (int i = random.nextInt(8); i > 0; i--) {
            act();
        }
        for (int t = random.nextInt(3); t <= 9; t += 1 + random.nextInt(3)) {
            plan(t);
        }
    }

    private void run(boolean plans) {
        begin();
        makeHall(plans ? 3 + random.nextInt(2) : 6, plans ? 2 + random.nextInt(2) : 4);
        read();
        due("about(3)", x.about(3), wishes);
        due("about(4)", x.about(4), model.deals.size());
        due("about(10)", x.about(10), units);
        for (int i = 0; i < 60; i++) {
            // PLANS are of most weight while the MATTERS live.
            if (plans && (i < 10 || random.nextInt(6) == 0)) {
                plan(random.nextInt(3) == 0 ? random.nextInt(43) - 1 : random.nextInt(9));
            }
            act();
            ask();
        }
    }

    private void makeHall(int mostMen, int mostMatters) {
        int chairs = rich ? 1 + random.nextInt(3) : random.nextInt(7);
        for (int i = 0; i < chairs; i++) {
            Model.Chair c = new Model.Chair();
            c.holds = 1 + random.nextInt(2);
            c.stool = random.nextInt(3) == 0;
            model.chairs.add(c);
            put("chair c" + (char) ('a' + i) + " holds " + c.holds + (c.stool ? " stool;" : ";"));
        }
        int men = rich ? 4 + random.nextInt(3) : 1 + random.nextInt(mostMen);
        for (int i = 0; i < men; i++) {
            Model.Man m = new Model.Man();
            m.strong = 1 + random.nextInt(random.nextBoolean() ? 30 : 6);
            m.where = random.nextInt(5) == 0 ? -2 : -1;
            model.men.add(m);
            put("man m" + (char) ('a' + i) + " strong " + m.strong + (m.where == -2 ? " door;" : ";"));
        }
        model.matters = rich ? 2 + random.nextInt(3) : 1 + random.nextInt(mostMatters);
        for (int i = 0; i < model.matters; i++) {
            model.dies[i] = 1 + random.nextInt(random.nextInt(3) == 0 ? 12 : 70);
            put("matter t" + (char) ('a' + i) + " dies " + model.dies[i] + ";");
        }
        makeWishes();
        if (random.nextBoolean()) {
            model.nap = 1 + random.nextInt(9);
            put("nap " + model.nap + ";");
        }
        if (random.nextInt(3) > (rich ? 1 : 0)) {
            StringBuilder e = new StringBuilder();
            model.rule = makePart(0, 3, e);
            put("pass " + e + ";");
        }
    }

    private void makeWishes() {
        for (int i = 0; i < model.men.size(); i++) {
            for (int j = 0; j < model.matters; j++) {
                if (random.nextInt(4) > 0) {
                    int v = random.nextInt(5) == 0 ? 0 : random.nextInt(30) - 12;
                    v = rich && random.nextBoolean() ? random.nextInt(3) == 0 ? 40 : -1 : v;
                    model.wish[i][j] = v;
                    wishes++;
                    put("wish m" + (char) ('a' + i) + " t" + (char) ('a' + j) + " " + v + ";");
                }
            }
        }
        int deals = rich ? 2 + random.nextInt(3) : random.nextInt(5);
        deals = model.men.size() > 1 && model.matters > 1 ? deals : 0;
        for (int i = 0; i < deals; i++) {
            Model.Deal d = new Model.Deal();
            d.man = random.nextInt(model.men.size());
            d.otherMan = (d.man + 1 + random.nextInt(model.men.size() - 1)) % model.men.size();
            d.matter = random.nextInt(model.matters);
            d.otherMatter = (d.matter + 1 + random.nextInt(model.matters - 1)) % model.matters;
            model.deals.add(d);
            put("deal m" + (char) ('a' + d.man) + " t" + (char) ('a' + d.matter) + " for m"
                    + (char) ('a' + d.otherMan) + " t" + (char) ('a' + d.otherMatter) + ";");
        }
    }

    private void put(String line) {
        text.append(line);
        if (random.nextInt(6) == 0) {
            text.append(random.nextBoolean() ? " " : "\n");
        }
    }

    /** A part of one level (0 or, 1 and, 2 one, 3 sum, 4 term, 5 unit), written as it is made. */
    private Model.Part makePart(int level, int deep, StringBuilder out) {
        if (level == 5) {
            return makeUnit(deep, out);
        }
        if (level == 2 && deep > 0 && random.nextInt(6) == 0) {
            out.append("not ");
            return new Model.Part("not", 0, makePart(2, deep - 1, out), null);
        }
        Model.Part part = makePart(level + 1, deep, out);
        int more = random.nextInt(5) == 0 || level == 2 && random.nextInt(3) > 0 ? 1 : 0;
        for (int i = 0; i < more && units < 30; i++) {
            String[][] ops = {{"or"}, {"and"}, {"<", ">", "="}, {"+", "-"}, {"*"}};
            String op = ops[level][random.nextInt(ops[level].length)];
            out.append(level < 2 ? " " + op + " " : op);
            part = new Model.Part(op, 0, part, makePart(level + 1, deep, out));
        }
        return part;
    }

    private Model.Part makeUnit(int deep, StringBuilder out) {
        units++;
        int kind = random.nextInt(9);
        if (kind == 0 && deep > 0 && units < 25) {
            out.append("(");
            Model.Part part = makePart(0, deep - 1, out);
            out.append(")");
            return part;
        }
        if (kind < 4) {
            int n = random.nextInt(4);
            out.append(n);
            return new Model.Part("n", n, null, null);
        }
        String op = new String[] {"yes", "no", "sits", "stands", "here"}[kind - 4];
        out.append(op);
        return new Model.Part(op, 0, null, null);
    }

    // ---- calls

    private int any(int n) {
        return random.nextInt(20) == 0 ? random.nextInt(n + 3) - 1 : random.nextInt(Math.max(n, 1));
    }

    private void act() {
        int man = any(model.men.size());
        int chair = any(model.chairs.size());
        int matter = any(model.matters);
        switch (random.nextInt(15)) {
            case 0:
            case 1:
                due("rise(" + man + ")", x.rise(man), model.rise(man));
                break;
            case 2:
            case 3:
            case 4:
                due("sit(" + man + ", " + chair + ")", x.sit(man, chair), model.sit(man, chair));
                break;
            case 5:
            case 6:
                due("speak(" + man + ", " + matter + ")", x.speak(man, matter), model.speak(man, matter));
                break;
            case 7:
                due("vote(" + matter + ")", x.vote(matter), model.vote(matter));
                break;
            case 8:
                due("enter(" + man + ")", x.enter(man), model.enter(man));
                break;
            case 9:
                int minutes = random.nextInt(8) == 0 ? random.nextInt(210) - 5 : random.nextInt(4);
                due("stay(" + minutes + ")", x.stay(minutes), model.stay(minutes));
                break;
            case 10:
                boolean broken = random.nextBoolean();
                due("crack(" + chair + ", " + broken + ")", x.crack(chair, broken), model.crack(chair, broken));
                break;
            case 11:
                due("found(" + chair + ")", x.found(chair) ? 1 : 0, model.found(chair) ? 1 : 0);
                break;
            default:
                note();
                break;
        }
    }

    private void note() {
        switch (random.nextInt(7)) {
            case 0:
            case 1:
                int[] e = {random.nextInt(4), random.nextInt(model.men.size()), random.nextInt(3) - 1, time, -1};
                due("entry", x.entry(e[0], e[1], e[2]), entries.size() < 40 ? entries.size() : -1);
                if (entries.size() < 40) {
                    entries.add(e);
                }
                break;
            case 2:
                int i = random.nextInt(entries.size() + 1);
                boolean can = i < entries.size() && entries.get(i)[4] < 0;
                due("untell(" + i + ")", x.untell(i) ? 1 : 0, can ? 1 : 0);
                if (can) {
                    entries.get(i)[4] = time;
                }
                break;
            case 3:
                int by = random.nextInt(4);
                time += by;
                due("later(" + by + ")", x.later(by), time);
                break;
            default:
                box();
                break;
        }
    }

    private void box() {
        int box = random.nextInt(3);
        if (random.nextBoolean()) {
            boxes[box] = model.copy();
            due("image(" + box + ")", x.image(box), model.minutes);
        } else {
            due("back(" + box + ")", x.back(box), boxes[box] == null ? -1 : boxes[box].minutes);
            if (boxes[box] != null) {
                model = boxes[box].copy();
            }
        }
    }

    private void ask() {
        for (int what = -1; what <= 6; what++) {
            int man = any(model.men.size());
            due("man(" + man + ", " + what + ")", x.man(man, what), model.man(man, what));
            int chair = any(model.chairs.size());
            due("chair(" + chair + ", " + what + ")", x.chair(chair, what), model.chair(chair, what));
            int matter = any(model.matters);
            due("matter(" + matter + ", " + what + ")", x.matter(matter, what), model.matter(matter, what));
            int deal = any(4);
            due("deal(" + deal + ")", x.deal(deal), model.deal(deal));
            int i = any(4);
            due("voted(" + i + ", " + what + ")", x.voted(i, what), model.voted(i, what));
            int minute = any(Math.min(model.minutes, 203)) + random.nextInt(2);
            due("sat(" + chair + ", " + minute + ")", x.sat(chair, minute), model.sat(chair, minute));
        }
        due("about(5)", x.about(5), model.minutes);
        due("about(6)", x.about(6), model.votes.size());
        due("about(7)", x.about(7), entries.size());
        due("about(8)", x.about(8), time);
        due("about(11)", x.about(11), model.seatCount());
        due("about(12)", x.about(12), model.sank);
        judge();
        int matter = any(model.matters);
        int yes = random.nextInt(4);
        int no = random.nextInt(3);
        for (int what = 0; what < 3; what++) {
            due("could(" + matter + ", " + yes + ", " + no + ", " + what + ")",
                    x.could(matter, yes, no, what), model.could(matter, yes, no, what));
        }
        if (random.nextInt(10) == 0) {
            int some = random.nextInt(1 << model.men.size());
            due("floor(" + some + ")", x.floor(some), model.floor(some));
        }
    }

    private void judge() {
        int k = random.nextInt(time + 2) - 1;
        int[] due = {0, 0, -1};
        for (int i = 0; i < entries.size(); i++) {
            int[] e = entries.get(i);
            if (e[3] <= k && (e[4] < 0 || e[4] > k) && e[0] < model.votes.size()) {
                int[] v = model.votes.get(e[0]);
                int said = (v[2] >> e[1] & 1) == 1 ? 1 : (v[3] >> e[1] & 1) == 1 ? -1 : 0;
                if (said != e[2]) {
                    due[0]++;
                    due[2] = due[2] < 0 ? i : due[2];
                }
                due[1] += e[2] != 0 && (v[4] >> e[1] & 1) == 1 ? 1 : 0;
            }
        }
        for (int what = 0; what < 3; what++) {
            due("judge(" + what + ", " + k + ")", x.judge(what, k), due[what]);
        }
    }

    private void plan(int t) {
        due("best(" + t + ", 0)", x.best(t, 0), model.best(t, 0));
        due("best(" + t + ", 1)", x.best(t, 1), model.best(t, 1));
        due("fewest(" + t + ")", x.fewest(t), model.fewest(t));
        for (int man = 0; man < model.men.size(); man++) {
            due("lets(" + man + ", " + t + ")", x.lets(man, t), model.lets(man, t));
        }
    }

    private void due(String call, int got, int want) {
        calls.append(' ').append(call);
        if (got != want) {
            check.due(text + " :: " + calls, got, want);
        } else {
            check.due("", 0, 0);
        }
    }
}
