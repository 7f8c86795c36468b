import java.math.BigInteger;
import java.util.ArrayList;
import java.util.HashMap;
import java.util.List;
import java.util.Map;
import java.util.function.ToIntFunction;

/**
 * The document once more, plainly and by other means than the class: days as new
 * maps, chances as fractions, a ship as a fork of the road, a text as a tree.
 */
final class Model {
    static final long NO = -(1L << 62);

    record Man(int store, int rows) {
    }

    record Rule(int kind, int more, int[] told) {
    }

    record Text(ToIntFunction<Map<String, Integer>> need, ToIntFunction<Map<String, Integer>> row) {
    }

    record Image(List<Man> men, int[] boat, int[] chance, int[] rain, int law) {
    }

    /** As a day begins; got is what each got on the day ahead. */
    record State(int[] stores, int[] got, int keg, int rowed, boolean landed, int hidden) {
        boolean anybody() {
            for (int s : stores) {
                if (s > 0) {
                    return true;
                }
            }
            return false;
        }
    }

    record Fraction(BigInteger above, BigInteger below) {
        static final Fraction ZERO = new Fraction(BigInteger.ZERO, BigInteger.ONE);
        static final Fraction ONE = new Fraction(BigInteger.ONE, BigInteger.ONE);

        static Fraction tenths(int t) {
            return new Fraction(BigInteger.valueOf(t), BigInteger.TEN);
        }

        Fraction plus(Fraction o) {
            return new Fraction(above.multiply(o.below).add(o.above.multiply(below)), below.multiply(o.below));
        }

        Fraction minus(Fraction o) {
            return plus(new Fraction(o.above.negate(), o.below));
        }

        Fraction times(Fraction o) {
            return new Fraction(above.multiply(o.above), below.multiply(o.below));
        }

        int compare(Fraction o) {
            return above.multiply(o.below).compareTo(o.above.multiply(below));
        }

        long part(int part) {
            BigInteger g = above.gcd(below);
            return (part == 0 ? above : below).divide(g).longValueExact();
        }
    }

    final List<Man> men = new ArrayList<>();
    final int[] boat = {6, 60, 12, 100};
    final int[] chance = new int[12];
    final int[] rain = new int[12];
    final List<Rule> rules = new ArrayList<>();
    final List<Text> texts = new ArrayList<>();
    int law = 0;
    final List<Integer> tape = new ArrayList<>();
    Image image = null;
    final int[][] sheets = new int[4][];
    final int[] sorts = new int[4];

    Model() {
        texts.add(new Text(f -> 3 + f.get("rows"), f -> f.get("rows") * 4));
    }

    static boolean in(int v, int low, int high) {
        return low <= v && v <= high;
    }

    // ---- what is told

    int man(int v, int r) {
        if (!in(v, 1, 99) || !in(r, 0, 9)) {
            return -2;
        }
        if (men.size() == 8) {
            return -4;
        }
        men.add(new Man(v, r));
        return men.size() - 1;
    }

    int set(int m, int what, int v) {
        if (!in(m, 0, men.size() - 1)) {
            return -5;
        }
        Man was = men.get(m);
        if (what == 0 && in(v, 1, 99)) {
            men.set(m, new Man(v, was.rows));
            return was.store;
        }
        if (what == 1 && in(v, 0, 9)) {
            men.set(m, new Man(was.store, v));
            return was.rows;
        }
        return -7;
    }

    int boat(int what, int v) {
        boolean right = what == 0 && in(v, 1, 12) || what == 1 && in(v, 0, 999)
            || what == 2 && in(v, 0, 99) || what == 3 && in(v, 0, 9999);
        if (!right) {
            return -2;
        }
        int was = boat[what];
        boat[what] = v;
        return was;
    }

    int day(int d, int what, int v) {
        if (!in(d, 0, 11)) {
            return -5;
        }
        if (!(what == 0 && in(v, 0, 9) || what == 1 && in(v, 0, 50))) {
            return -7;
        }
        int[] row = what == 0 ? chance : rain;
        int was = row[d];
        row[d] = v;
        return was;
    }

    int boatTold(int what) {
        if (!in(what, 0, 8)) {
            return -2;
        }
        int[] all = {boat[0], boat[1], boat[2], boat[3], men.size(), rules.size(), texts.size(), law, tape.size()};
        return all[what];
    }

    int rule(int kind, int more, int s) {
        if (!in(kind, 0, 5) || !in(more, 0, 99) || kind == 4 && !in(s, 0, 3)) {
            return -2;
        }
        int[] told = new int[8];
        if (kind == 4) {
            if (sheets[s] == null) {
                return -11;
            }
            if (sheets[s].length != men.size()) {
                return -2;
            }
            for (int i = 0; i < men.size(); i++) {
                if (!in(sheets[s][i], 0, 50)) {
                    return -2;
                }
                told[i] = sheets[s][i];
            }
        }
        if (rules.size() == 8) {
            return -4;
        }
        rules.add(new Rule(kind, more, told));
        return rules.size() - 1;
    }

    int ruleTold(int r, int what) {
        if (!in(r, 0, rules.size() - 1)) {
            return -5;
        }
        if (!in(what, 0, 9)) {
            return -7;
        }
        Rule rule = rules.get(r);
        return what == 0 ? rule.kind : what == 1 ? rule.more : rule.told[what - 2];
    }

    int feed(long w, int n) {
        if (!in(n, 1, 8)) {
            return -2;
        }
        if (tape.size() + n > 160) {
            return -4;
        }
        for (int i = 8 - n; i < 8; i++) {
            tape.add((int) (w << 8 * i >>> 56));
        }
        return tape.size();
    }

    int text() {
        if (texts.size() == 6) {
            return -4;
        }
        ModelText read = new ModelText(tape);
        tape.clear();
        Text text = read.text();
        if (text == null) {
            return -100 - read.fault;
        }
        texts.add(text);
        return texts.size() - 1;
    }

    int force(int t) {
        if (!in(t, 0, texts.size() - 1)) {
            return -2;
        }
        int was = law;
        law = t;
        return was;
    }

    // ---- the days

    int share(Rule rule, int kind, State s, int d, List<Integer> drinkers, int m, int ration) {
        switch (kind) {
            case 0:
                return ration / drinkers.size();
            case 1: {
                int above = share(rule, 0, s, d, drinkers, m, ration);
                return men.get(m).rows > 0 ? above + 1 : Math.max(above - 1, 0);
            }
            case 2: {
                int above = share(rule, 0, s, d, drinkers, m, ration);
                return s.stores[m] < rule.more ? above + 2 : Math.max(above - 1, 0);
            }
            case 3: {
                int above = share(rule, 2, s, d, drinkers, m, ration);
                int lesser = 0;
                for (int o : drinkers) {
                    lesser += o < m ? 1 : 0;
                }
                return lesser == (7 * d + rule.more) % drinkers.size() ? above * 2 : above;
            }
            case 4:
                return rule.told[m];
            default: {
                int above = share(rule, 1, s, d, drinkers, m, ration);
                return d < rule.more ? above : above / 2;
            }
        }
    }

    State begin(int hidden) {
        int[] stores = new int[men.size()];
        for (int m = 0; m < stores.length; m++) {
            stores[m] = men.get(m).store;
        }
        return new State(stores, new int[stores.length], boat[1], 0, false, hidden);
    }

    State after(State s, Rule rule, int d, int ration, int set, int hider) {
        int count = men.size();
        if (s.landed || !s.anybody()) {
            return new State(s.stores, new int[count], s.keg, s.rowed, s.landed, s.hidden);
        }
        List<Integer> drinkers = new ArrayList<>();
        for (int m = 0; m < count; m++) {
            if (s.stores[m] > 0 && (set & 1 << m) != 0) {
                drinkers.add(m);
            }
        }
        int keg = Math.min(9999, s.keg + rain[d]);
        int left = ration;
        int[] got = new int[count];
        for (int m : drinkers) {
            got[m] = Math.min(Math.min(left, keg), share(rule, rule.kind, s, d, drinkers, m, ration));
            left -= got[m];
            keg -= got[m];
        }
        int rowed = s.rowed;
        int hidden = s.hidden;
        int[] stores = new int[count];
        for (int m = 0; m < count; m++) {
            if (s.stores[m] == 0) {
                continue;
            }
            Map<String, Integer> facts = new HashMap<>();
            facts.put("store", s.stores[m]);
            facts.put("rows", men.get(m).rows);
            facts.put("day", d);
            facts.put("share", got[m]);
            facts.put("alive", drinkers.size());
            facts.put("more", rule.more);
            rowed += Math.max(0, Math.min(99, texts.get(law).row.applyAsInt(facts)));
            int less = Math.max(0, Math.min(20, texts.get(law).need.applyAsInt(facts)));
            int besides = 0;
            if (m == hider && hidden > 0) {
                hidden--;
                besides = 1;
            }
            stores[m] = Math.max(0, Math.min(99, s.stores[m] + got[m] + besides - less));
        }
        State next = new State(stores, got, keg, rowed, false, hidden);
        return new State(stores, got, keg, rowed, rowed >= boat[3] && next.anybody(), hidden);
    }

    /** The states as day 0, 1, .. DAYS begins, no ship coming. */
    List<State> days(Rule rule, int ration, int set, int hider, int hidden) {
        List<State> all = new ArrayList<>();
        all.add(begin(hidden));
        for (int d = 0; d < boat[0]; d++) {
            all.add(after(all.get(d), rule, d, ration, set, hider));
        }
        return all;
    }

    List<State> days(Rule rule) {
        return days(rule, boat[2], 255, -1, 0);
    }

    /** How likely he comes home from the beginning of a day on. */
    Fraction home(List<State> days, int d, int m) {
        State s = days.get(d);
        if (s.landed) {
            return s.stores[m] > 0 ? Fraction.ONE : Fraction.ZERO;
        }
        if (d == boat[0]) {
            return Fraction.ZERO;
        }
        Fraction ship = s.stores[m] > 0 ? Fraction.tenths(chance[d]) : Fraction.ZERO;
        return ship.plus(Fraction.tenths(10 - chance[d]).times(home(days, d + 1, m)));
    }

    Fraction mean(List<State> days) {
        Fraction sum = Fraction.ZERO;
        for (int m = 0; m < men.size(); m++) {
            sum = sum.plus(home(days, 0, m));
        }
        return sum;
    }

    Fraction least(List<State> days) {
        Fraction least = null;
        for (int m = 0; m < men.size(); m++) {
            Fraction home = home(days, 0, m);
            least = least == null || home.compare(least) < 0 ? home : least;
        }
        return least == null ? Fraction.ZERO : least;
    }

    boolean isRule(int r) {
        return in(r, 0, rules.size() - 1);
    }

    boolean isMan(int m) {
        return in(m, 0, men.size() - 1);
    }

    // ---- what comes of it

    long home(int r, int m, int part) {
        return isRule(r) && isMan(m) && in(part, 0, 1) ? home(days(rules.get(r)), 0, m).part(part) : NO;
    }

    long mean(int r, int what, int part) {
        if (!isRule(r) || !in(what, 0, 1) || !in(part, 0, 1)) {
            return NO;
        }
        List<State> days = days(rules.get(r));
        return (what == 0 ? mean(days) : least(days)).part(part);
    }

    int told(int r, int d, int m, int what) {
        if (!isRule(r) || !in(d, 0, boat[0]) || !isMan(m)) {
            return -5;
        }
        if (!in(what, 0, 3) || what == 1 && d == boat[0]) {
            return -7;
        }
        List<State> days = days(rules.get(r));
        State s = days.get(d);
        return what == 0 ? s.stores[m] : what == 1 ? days.get(d + 1).got[m] : what == 2 ? s.keg : s.rowed;
    }

    int ends(int r, int what) {
        if (!isRule(r)) {
            return -5;
        }
        if (!in(what, 0, 2)) {
            return -7;
        }
        List<State> days = days(rules.get(r));
        int living = 0;
        int landing = -1;
        int death = -1;
        for (int d = boat[0] - 1; d >= 0; d--) {
            landing = days.get(d + 1).landed ? d : landing;
        }
        for (int m = 0; m < men.size(); m++) {
            living += days.get(boat[0]).stores[m] > 0 ? 1 : 0;
            for (int d = 0; d < boat[0]; d++) {
                if (days.get(d).stores[m] > 0 && days.get(d + 1).stores[m] == 0) {
                    death = death < 0 ? d : Math.min(death, d);
                }
            }
        }
        return what == 0 ? landing : what == 1 ? living : death;
    }

    int best(int what) {
        if (!in(what, 0, 1)) {
            return -2;
        }
        int best = -1;
        Fraction most = null;
        for (int r = 0; r < rules.size(); r++) {
            List<State> days = days(rules.get(r));
            Fraction f = what == 0 ? mean(days) : least(days);
            if (most == null || f.compare(most) > 0) {
                most = f;
                best = r;
            }
        }
        return best;
    }

    int rations(int r) {
        if (!isRule(r)) {
            return -5;
        }
        int best = -1;
        Fraction most = null;
        for (int ration = 0; ration < 100; ration++) {
            Fraction f = mean(days(rules.get(r), ration, 255, -1, 0));
            if (most == null || f.compare(most) > 0) {
                most = f;
                best = ration;
            }
        }
        return best;
    }

    boolean would(Rule rule, int set) {
        List<State> without = days(rule);
        List<State> with = days(rule, boat[2], set, -1, 0);
        for (int m = 0; m < men.size(); m++) {
            if ((set & 1 << m) != 0 && home(with, 0, m).compare(home(without, 0, m)) <= 0) {
                return false;
            }
        }
        return true;
    }

    int take(int r, int set) {
        if (!isRule(r)) {
            return -5;
        }
        if (set < 1 || set > (1 << men.size()) - 1) {
            return -7;
        }
        return would(rules.get(r), set) ? 1 : 0;
    }

    int takes(int r) {
        if (!isRule(r)) {
            return -5;
        }
        int best = -1;
        for (int set = 1; set < 1 << men.size(); set++) {
            int size = Integer.bitCount(set);
            if (size <= 3 && (best < 0 || size < Integer.bitCount(best)) && would(rules.get(r), set)) {
                best = set;
            }
        }
        return best;
    }

    long hid(int r, int m, int v, int part) {
        if (!isRule(r) || !isMan(m) || !in(v, 0, 50) || !in(part, 0, 1)) {
            return NO;
        }
        Rule rule = rules.get(r);
        Fraction then = home(days(rule, boat[2], 255, m, v), 0, m);
        return then.minus(home(days(rule), 0, m)).part(part);
    }

    int judge(int r, int d, int s) {
        if (!isRule(r) || !in(d, 0, boat[0] - 1)) {
            return -5;
        }
        if (!in(s, 0, 3)) {
            return -2;
        }
        if (sheets[s] == null) {
            return -11;
        }
        if (sheets[s].length != men.size()) {
            return -2;
        }
        int[] got = days(rules.get(r)).get(d + 1).got;
        for (int m = 0; m < got.length; m++) {
            if (got[m] != sheets[s][m]) {
                return m;
            }
        }
        return -1;
    }

    int until(int r, int m) {
        if (!isRule(r) || !isMan(m)) {
            return -5;
        }
        List<State> days = days(rules.get(r));
        for (int d = boat[0] - 1; d >= 0; d--) {
            if (!days.get(d).landed && days.get(d).stores[m] > 0) {
                return d;
            }
        }
        return -1;
    }

    int image() {
        image = new Image(new ArrayList<>(men), boat.clone(), chance.clone(), rain.clone(), law);
        return men.size();
    }

    int back() {
        if (image == null) {
            return -3;
        }
        for (int m = 0; m < image.men.size(); m++) {
            men.set(m, new Man(image.men.get(m).store, men.get(m).rows));
        }
        System.arraycopy(image.boat, 0, boat, 0, 4);
        System.arraycopy(image.chance, 0, chance, 0, 12);
        System.arraycopy(image.rain, 0, rain, 0, 12);
        law = image.law;
        return men.size();
    }

    // ---- the host

    int sheet(int s, int sort, int n) {
        if (!in(s, 0, 3) || !in(sort, -1, 2) || sort >= 0 && n > 40) {
            return -2;
        }
        if (sort >= 0 && n < 0) {
            return -14;
        }
        sheets[s] = sort < 0 ? null : new int[n];
        sorts[s] = sort;
        return 1;
    }

    int cell(int s, int i, int v) {
        if (!in(s, 0, 3)) {
            return -2;
        }
        if (sheets[s] == null) {
            return -11;
        }
        if (!in(i, 0, sheets[s].length - 1)) {
            return -12;
        }
        int unused = sorts[s] == 0 ? 24 : sorts[s] == 1 ? 16 : 0;
        sheets[s][i] = v << unused >> unused;
        return 1;
    }

    int copy(int s, int i, int other, int j, int n) {
        if (!in(s, 0, 3) || !in(other, 0, 3)) {
            return -2;
        }
        if (sheets[s] == null || sheets[other] == null) {
            return -11;
        }
        if (sorts[s] != sorts[other]) {
            return -13;
        }
        if (n < 0 || i < 0 || j < 0 || (long) i + n > sheets[s].length || (long) j + n > sheets[other].length) {
            return -12;
        }
        int[] were = sheets[s].clone();
        for (int k = 0; k < n; k++) {
            sheets[other][j + k] = were[i + k];
        }
        return n;
    }

    int men(int s, int sort, int at, int n) {
        if (!in(s, 0, 3) || !in(sort, 0, 2) || !in(n, 0, 8)) {
            return -2;
        }
        if (sheets[s] == null) {
            return -11;
        }
        if (sorts[s] != sort) {
            return -13;
        }
        int came = 0;
        for (int k = 0; k < n; k++) {
            long place = (long) at + 2 * k;
            if (place < 0 || place + 1 >= sheets[s].length) {
                return -12;
            }
            came += man(sheets[s][(int) place], sheets[s][(int) place + 1]) >= 0 ? 1 : 0;
        }
        return came;
    }

    int taken(int i, int kind) {
        if (!in(kind, 0, 6)) {
            return -2;
        }
        if (!in(i, 0, 15)) {
            return -12;
        }
        if (i < 8) {
            return i >= men.size() ? -11 : kind == 6 ? men.get(i).store : -13;
        }
        if (i - 8 >= rules.size()) {
            return -11;
        }
        int[][] ancestors = {{0}, {0, 1}, {0, 2}, {0, 2, 3}, {0, 4}, {0, 1, 5}};
        for (int a : ancestors[rules.get(i - 8).kind]) {
            if (a == kind) {
                return i - 8;
            }
        }
        return -13;
    }
}
