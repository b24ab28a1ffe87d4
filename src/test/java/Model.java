import java.util.ArrayList;
import java.util.HashMap;
import java.util.HashSet;
import java.util.List;
import java.util.Map;
import java.util.Set;

/** The document once more, as plainly as can be and without care for speed: what answers are due. */
final class Model {
    /** A part of e: a number, a count, or an operator over parts. */
    static final class Part {
        final String op;
        final int number;
        final Part left;
        final Part right;

        Part(String op, int number, Part left, Part right) {
            this.op = op;
            this.number = number;
            this.left = left;
            this.right = right;
        }

        int value(int yes, int no, int sits, int stands) {
            int a = left == null ? 0 : left.value(yes, no, sits, stands);
            int b = right == null ? 0 : right.value(yes, no, sits, stands);
            switch (op) {
                case "n": return number;
                case "yes": return yes;
                case "no": return no;
                case "sits": return sits;
                case "stands": return stands;
                case "here": return sits + stands;
                case "not": return a == 0 ? 1 : 0;
                case "or": return a != 0 || b != 0 ? 1 : 0;
                case "and": return a != 0 && b != 0 ? 1 : 0;
                case "<": return a < b ? 1 : 0;
                case ">": return a > b ? 1 : 0;
                case "=": return a == b ? 1 : 0;
                case "+": return a + b;
                case "-": return a - b;
                default: return a * b;
            }
        }
    }

    static final class Deal {
        int man;
        int matter;
        int otherMan;
        int otherMatter;
        int end;
    }

    static final class Man {
        int strong;
        int where = -1;
        int tired;
        int sat;
        Set<Integer> spoken = new HashSet<>();
    }

    static final class Chair {
        int holds;
        boolean stool;
        boolean broken;
        boolean found;
    }

    List<Chair> chairs = new ArrayList<>();
    List<Man> men = new ArrayList<>();
    int[] dies = new int[4];
    int[] status = new int[4];
    int matters;
    int[][] wish = new int[6][4];
    List<Deal> deals = new ArrayList<>();
    int nap;
    Part rule = new Part(">", 0, new Part("yes", 0, null, null), new Part("no", 0, null, null));
    int minutes;
    int sank;
    List<int[]> votes = new ArrayList<>();
    List<int[]> seats = new ArrayList<>();

    Model copy() {
        Model m = new Model();
        for (Chair c : chairs) {
            Chair d = new Chair();
            d.holds = c.holds;
            d.stool = c.stool;
            d.broken = c.broken;
            d.found = c.found;
            m.chairs.add(d);
        }
        for (Man p : men) {
            Man q = new Man();
            q.strong = p.strong;
            q.where = p.where;
            q.tired = p.tired;
            q.sat = p.sat;
            q.spoken.addAll(p.spoken);
            m.men.add(q);
        }
        for (Deal d : deals) {
            Deal e = new Deal();
            e.man = d.man;
            e.matter = d.matter;
            e.otherMan = d.otherMan;
            e.otherMatter = d.otherMatter;
            e.end = d.end;
            m.deals.add(e);
        }
        m.dies = dies.clone();
        m.status = status.clone();
        m.matters = matters;
        m.wish = wish;
        m.nap = nap;
        m.rule = rule;
        m.minutes = minutes;
        m.sank = sank;
        m.votes.addAll(votes);
        m.seats.addAll(seats);
        return m;
    }

    // ---- ACTS

    boolean isMan(int man) {
        return man >= 0 && man < men.size();
    }

    boolean isChair(int chair) {
        return chair >= 0 && chair < chairs.size();
    }

    boolean isMatter(int matter) {
        return matter >= 0 && matter < matters;
    }

    boolean stands(int man) {
        return isMan(man) && men.get(man).where == -1;
    }

    int sitters(int chair) {
        int bits = 0;
        for (int i = 0; i < men.size(); i++) {
            bits |= men.get(i).where == chair ? 1 << i : 0;
        }
        return bits;
    }

    boolean room(int chair) {
        return isChair(chair) && !chairs.get(chair).broken
                && Integer.bitCount(sitters(chair)) < chairs.get(chair).holds;
    }

    int rise(int man) {
        if (!isMan(man) || men.get(man).where < 0 || minutes >= 10000) {
            return -1;
        }
        men.get(man).where = -1;
        return minute();
    }

    int sit(int man, int chair) {
        if (!stands(man) || !room(chair) || minutes >= 10000) {
            return -1;
        }
        men.get(man).where = chair;
        men.get(man).sat = 0;
        return minute();
    }

    int speak(int man, int matter) {
        if (!stands(man) || !isMatter(matter) || status[matter] > 1 || minutes >= 10000
                || men.get(man).tired >= men.get(man).strong) {
            return -1;
        }
        status[matter] = 1;
        men.get(man).spoken.add(matter);
        return minute();
    }

    boolean due(Deal d) {
        return men.get(d.otherMan).spoken.contains(d.otherMatter);
    }

    /** 1 yes, -1 no, 0 neither. */
    int says(int man, int matter) {
        Man m = men.get(man);
        if (m.where < 0 || naps(man) || chairs.get(m.where).found) {
            return 0;
        }
        for (Deal d : deals) {
            if (d.man == man && d.matter == matter && due(d)) {
                return 1;
            }
        }
        return Integer.signum(wish[man][matter]);
    }

    boolean naps(int man) {
        return nap > 0 && men.get(man).where >= 0 && men.get(man).sat >= nap;
    }

    int saying(int matter, int what) {
        int bits = 0;
        for (int i = 0; i < men.size(); i++) {
            bits |= says(i, matter) == what ? 1 << i : 0;
        }
        return bits;
    }

    int vote(int matter) {
        if (!isMatter(matter) || status[matter] != 1 || minutes >= 10000) {
            return -1;
        }
        int yes = saying(matter, 1);
        int no = saying(matter, -1);
        int sits = 0;
        int stands = 0;
        int stood = 0;
        for (int i = 0; i < men.size(); i++) {
            int where = men.get(i).where;
            sits += where >= 0 ? 1 : 0;
            stands += where == -1 ? 1 : 0;
            stood |= where < 0 ? 1 << i : 0;
        }
        int passed = rule.value(Integer.bitCount(yes), Integer.bitCount(no), sits, stands) != 0 ? 1 : 0;
        for (Deal d : deals) {
            if (d.matter == matter && due(d)) {
                d.end = (yes >> d.man & 1) == 1 ? 2 : 3;
            }
        }
        status[matter] = passed == 1 ? 2 : 3;
        votes.add(new int[] {minutes + 1, matter, yes, no, stood, passed});
        minute();
        return passed;
    }

    int enter(int man) {
        if (!isMan(man) || men.get(man).where != -2 || minutes >= 10000) {
            return -1;
        }
        men.get(man).where = -1;
        return minute();
    }

    int stay(int n) {
        if (n < 0 || n > 200 || minutes + n > 10000) {
            return -1;
        }
        for (int i = 0; i < n; i++) {
            minute();
        }
        return minutes;
    }

    private int minute() {
        minutes++;
        for (int i = 0; i < matters; i++) {
            if (status[i] < 2 && dies[i] == minutes) {
                status[i] = 3;
            }
        }
        for (Man m : men) {
            if (m.where == -1) {
                m.tired = Math.min(m.strong, m.tired + 1);
            }
            if (m.where >= 0) {
                m.tired = Math.max(0, m.tired - 2);
                m.sat++;
            }
        }
        for (Man m : men) {
            for (int c = 0; c < chairs.size() && m.where == -1 && m.tired == m.strong; c++) {
                if (room(c)) {
                    m.where = c;
                    m.sat = 0;
                    sank++;
                }
            }
        }
        int[] row = new int[chairs.size()];
        for (int c = 0; c < chairs.size(); c++) {
            row[c] = sitters(c);
        }
        seats.add(row);
        return minutes;
    }

    int crack(int chair, boolean broken) {
        if (!isChair(chair) || chairs.get(chair).broken == broken) {
            return -1;
        }
        int sat = Integer.bitCount(sitters(chair));
        chairs.get(chair).broken = broken;
        for (Man m : men) {
            if (m.where == chair) {
                m.where = -1;
            }
        }
        return sat;
    }

    boolean found(int chair) {
        if (!isChair(chair) || !chairs.get(chair).stool || chairs.get(chair).found) {
            return false;
        }
        chairs.get(chair).found = true;
        return true;
    }

    // ---- what there is

    int man(int man, int what) {
        if (!isMan(man)) {
            return -2;
        }
        Man m = men.get(man);
        switch (what) {
            case 0: return m.where == -2 ? 2 : m.where == -1 ? 0 : 1;
            case 1: return m.where < 0 ? -1 : m.where;
            case 2: return m.tired;
            case 3: return m.where < 0 ? 0 : m.sat;
            case 4: return naps(man) ? 1 : 0;
            case 5: return m.spoken.stream().mapToInt(i -> 1 << i).sum();
            default: return -2;
        }
    }

    int chair(int chair, int what) {
        if (!isChair(chair)) {
            return -2;
        }
        switch (what) {
            case 0: return sitters(chair);
            case 1: return chairs.get(chair).broken ? 1 : 0;
            case 2: return chairs.get(chair).found ? 1 : 0;
            default: return -2;
        }
    }

    int worth(int matter) {
        int sum = 0;
        for (int i = 0; i < men.size(); i++) {
            sum += wish[i][matter];
        }
        return sum;
    }

    int matter(int matter, int what) {
        if (!isMatter(matter)) {
            return -1000000;
        }
        switch (what) {
            case 0: return status[matter];
            case 1: return worth(matter);
            case 2: return Integer.bitCount(saying(matter, 1));
            case 3: return Integer.bitCount(saying(matter, -1));
            default: return -1000000;
        }
    }

    int deal(int i) {
        if (i < 0 || i >= deals.size()) {
            return -1;
        }
        Deal d = deals.get(i);
        return d.end != 0 ? d.end : due(d) ? 1 : 0;
    }

    int voted(int i, int what) {
        return i < 0 || i >= votes.size() || i >= 100 || what < 0 || what > 5 ? -1 : votes.get(i)[what];
    }

    int sat(int chair, int minute) {
        return !isChair(chair) || minute < 1 || minute > 200 || minute > minutes
                ? -1 : seats.get(minute - 1)[chair];
    }

    int seatCount() {
        int n = 0;
        for (Chair c : chairs) {
            n += c.broken || c.found ? 0 : c.holds;
        }
        return n;
    }

    // ---- PLANS: every PLAN is tried, MINUTE by MINUTE

    /** Of T MINUTES: the WORTH, and the fewest ACTS. Men in the hall, those who sit, seats. */
    int[] plan(int time, Set<Integer> here, Set<Integer> seated, int places) {
        int[] best = {0, 0};
        Set<String> done = new HashSet<>();
        List<PlanState> now = new ArrayList<>();
        PlanState start = new PlanState();
        start.sits = new HashSet<>(seated);
        start.status = status.clone();
        for (Man m : men) {
            start.spoken.add(new HashSet<>(m.spoken));
        }
        now.add(start);
        for (int acts = 1; acts <= time && !now.isEmpty(); acts++) {
            List<PlanState> next = new ArrayList<>();
            for (PlanState s : now) {
                for (PlanState t : s.after(here, places)) {
                    for (int i = 0; i < matters; i++) {
                        if (t.status[i] < 2 && dies[i] == minutes + acts) {
                            t.status[i] = 3;
                        }
                    }
                    if (t.worth > best[0]) {
                        best = new int[] {t.worth, acts};
                    }
                    if (done.add(t.key())) {
                        next.add(t);
                    }
                }
            }
            now = next;
        }
        return best;
    }

    final class PlanState {
        Set<Integer> sits;
        int[] status;
        List<Set<Integer>> spoken = new ArrayList<>();
        int worth;

        /** The MATTERS that died count, so no PLAN is taken for another that is later. */
        String key() {
            StringBuilder key = new StringBuilder().append(sits).append(worth);
            for (int s : status) {
                key.append(s);
            }
            for (Deal d : deals) {
                key.append(spoken.get(d.otherMan).contains(d.otherMatter) ? 'd' : '-');
            }
            return key.toString();
        }

        PlanState copy() {
            PlanState s = new PlanState();
            s.sits = new HashSet<>(sits);
            s.status = status.clone();
            for (Set<Integer> one : spoken) {
                s.spoken.add(new HashSet<>(one));
            }
            s.worth = worth;
            return s;
        }

        List<PlanState> after(Set<Integer> here, int places) {
            List<PlanState> all = new ArrayList<>();
            for (int man : here) {
                if (sits.contains(man)) {
                    PlanState s = copy();
                    s.sits.remove(man);
                    all.add(s);
                    continue;
                }
                if (sits.size() < places) {
                    PlanState s = copy();
                    s.sits.add(man);
                    all.add(s);
                }
                for (int matter = 0; matter < matters; matter++) {
                    if (status[matter] < 2) {
                        PlanState s = copy();
                        s.status[matter] = 1;
                        s.spoken.get(man).add(matter);
                        all.add(s);
                    }
                }
            }
            for (int matter = 0; matter < matters; matter++) {
                if (status[matter] == 1) {
                    all.add(voted(here, matter));
                }
            }
            return all;
        }

        PlanState voted(Set<Integer> here, int matter) {
            int yes = 0;
            int no = 0;
            for (int man : sits) {
                boolean bound = false;
                for (Deal d : deals) {
                    bound |= d.man == man && d.matter == matter
                            && spoken.get(d.otherMan).contains(d.otherMatter);
                }
                yes += bound || wish[man][matter] > 0 ? 1 : 0;
                no += !bound && wish[man][matter] < 0 ? 1 : 0;
            }
            PlanState s = copy();
            boolean passed = rule.value(yes, no, sits.size(), here.size() - sits.size()) != 0;
            s.status[matter] = passed ? 2 : 3;
            s.worth += passed ? worth(matter) : 0;
            return s;
        }
    }

    Set<Integer> here() {
        Set<Integer> here = new java.util.TreeSet<>();
        for (int i = 0; i < men.size(); i++) {
            if (men.get(i).where != -2) {
                here.add(i);
            }
        }
        return here;
    }

    Set<Integer> seated(int most) {
        Set<Integer> seated = new java.util.TreeSet<>();
        for (int i = 0; i < men.size() && seated.size() < most; i++) {
            int where = men.get(i).where;
            if (where >= 0 && !chairs.get(where).found) {
                seated.add(i);
            }
        }
        return seated;
    }

    int best(int time, int what) {
        return time < 0 || time > 40 || what < 0 || what > 1
                ? -1 : plan(time, here(), seated(6), seatCount())[what];
    }

    int fewest(int time) {
        if (time < 0 || time > 40) {
            return -1;
        }
        int all = here().size();
        int most = plan(time, here(), seated(all), all)[0];
        int n = 0;
        while (plan(time, here(), seated(n), n)[0] < most) {
            n++;
        }
        return n;
    }

    int lets(int man, int time) {
        if (time < 0 || time > 40 || !isMan(man) || men.get(man).where != -2) {
            return -1000000;
        }
        Set<Integer> more = here();
        more.add(man);
        return plan(time, more, seated(6), seatCount())[0] - best(time, 0);
    }

    // ---- FLOOR and COULD

    int floor(int bits) {
        List<Integer> some = new ArrayList<>();
        for (int i = 0; i < 32; i++) {
            if ((bits >> i & 1) == 1) {
                if (!isMan(i) || men.get(i).where == -2 || men.get(i).strong > 15) {
                    return -1;
                }
                some.add(i);
            }
        }
        if (some.isEmpty() || some.size() > 3) {
            return -1;
        }
        List<Integer> tired = new ArrayList<>();
        for (int i : some) {
            tired.add(men.get(i).tired);
        }
        return longest(some, tired, 0, new HashMap<>());
    }

    private int longest(List<Integer> some, List<Integer> tired, int minute, Map<String, Integer> known) {
        if (minute == 200) {
            return 200;
        }
        String key = minute + " " + tired;
        if (known.containsKey(key)) {
            return known.get(key);
        }
        int most = minute;
        for (int speaker = 0; speaker < some.size() && most < 200; speaker++) {
            if (tired.get(speaker) < men.get(some.get(speaker)).strong) {
                List<Integer> then = new ArrayList<>();
                for (int i = 0; i < some.size(); i++) {
                    then.add(i == speaker ? tired.get(i) + 1 : Math.max(0, tired.get(i) - 2));
                }
                most = Math.max(most, longest(some, then, minute + 1, known));
            }
        }
        known.put(key, most);
        return most;
    }

    int could(int matter, int yes, int no, int what) {
        if (!isMatter(matter) || yes < 0 || no < 0 || what < 0 || what > 2) {
            return -1;
        }
        int[] answer = {0, -1, 0};
        for (int set = 0; set < 1 << men.size(); set++) {
            int size = 0;
            int y = 0;
            int n = 0;
            for (int i = 0; i < men.size(); i++) {
                if ((set >> i & 1) == 1) {
                    size++;
                    y += wish[i][matter] > 0 ? 1 : 0;
                    n += wish[i][matter] < 0 ? 1 : 0;
                }
            }
            if (size <= seatCount() && y == yes && n == no) {
                answer[0]++;
                answer[1] &= set;
                answer[2] |= set;
            }
        }
        return answer[0] == 0 ? 0 : answer[what];
    }
}
