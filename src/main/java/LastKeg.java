import java.util.Arrays;

/**
 * Men in a boat, what is left in each, a keg and rules that share it out: how
 * likely each of them comes home. ../shared/DOC.md says what each call answers.
 */
public final class LastKeg {
    public static final int NONE = -1, BAD = -2, STATE = -3, FULL = -4;
    public static final long NO = -4611686018427387904L;

    private static final int UNKNOWN = -5, WRONG = -7, FAULTS = -100;
    private static final int NOTHING = -11, OUTSIDE = -12, UNLIKE = -13, BELOW = -14;

    private static final int MEN = 8, RULES = 8, TEXTS = 6, DAYS = 12;
    private static final int SHEETS = 4, CELLS = 40, TAPE = 160, OPEN_MOST = 5;
    private static final int STORE_MOST = 99, ROWS_MOST = 9, CHANCE_MOST = 9, RAIN_MOST = 50;
    private static final int TOLD_MOST = 50, MORE_MOST = 99, HID_MOST = 50, RATION_MOST = 99;
    private static final int NEED_MOST = 20, ROW_MOST = 99, KEG_MOST = 9999, TAKERS_MOST = 3;

    // Places in what is told of the boat, with the bounds of each.
    private static final int LENGTH = 0, KEG = 1, RATION = 2, MILES = 3, BOAT = 4;
    private static final int[] BOAT_LEAST = {1, 0, 0, 0};
    private static final int[] BOAT_MOST = {12, 999, 99, 9999};

    private static final int EVERYBODY = (1 << MEN) - 1;

    // Chances are tenths on 12 days at most, so all of them are whole in these parts.
    private static final long WHOLE = 1000000000000L;

    // A TEXT's tokens and its code: a number stands for itself, all else is below 0.
    private static final int NAME_STORE = -1, NAME_ROWS = -2, NAME_DAY = -3;
    private static final int NAME_SHARE = -4, NAME_ALIVE = -5, NAME_MORE = -6, NAMES = 6;
    private static final int NEGATIVE = -7, NOT = -8, OR = -9, AND = -10;
    private static final int LESS = -11, LIKE = -12, PLUS = -13, MINUS = -14, TIMES = -15;
    private static final int NEED = -16, ROW = -17, OPEN = -18, CLOSE = -19, STOP = -20;
    private static final int END = -21, ODD = -22;

    // What binds how tightly in a TEXT, the loosest first.
    private static final int BY_OR = 0, BY_AND = 1, BY_LIKE = 2, BY_SUM = 3, BY_TIMES = 4;

    private final Boat now;
    private Boat kept;
    private final Rule[] rules = new Rule[RULES];
    private int ruleCount;
    private final Law[] laws = new Law[TEXTS];
    private int lawCount;
    private final Tape tape = new Tape();
    private final Sheet[] sheets = new Sheet[SHEETS];
    private final Voyage voyage;
    private final long[] before = new long[MEN];

    public LastKeg() {
        int[] code = {3, NAME_ROWS, PLUS, NAME_ROWS, 4, TIMES};
        Law first = new Law(0, code, 3);
        laws[0] = first;
        lawCount = 1;
        now = new Boat(first);
        voyage = new Voyage(now);
        for (int s = 0; s < SHEETS; s++) {
            sheets[s] = new Sheet();
        }
    }

    // ---- men, the boat

    public int man(int v, int r) {
        if (!isStore(v) || !isRows(r)) {
            return BAD;
        }
        if (now.men < 0 || now.men >= MEN) {
            return FULL;
        }
        now.stores[now.men] = v;
        now.rows[now.men] = r;
        now.men++;
        return now.men - 1;
    }

    public int set(int m, int what, int v) {
        if (!isMan(m)) {
            return UNKNOWN;
        }
        if (what == 0 && isStore(v)) {
            return exchange(now.stores, m, v);
        }
        if (what == 1 && isRows(v)) {
            return exchange(now.rows, m, v);
        }
        return WRONG;
    }

    public int boat(int what, int v) {
        if (what < 0 || what >= BOAT || v < BOAT_LEAST[what] || v > BOAT_MOST[what]) {
            return BAD;
        }
        return exchange(now.told, what, v);
    }

    public int day(int d, int what, int v) {
        if (d < 0 || d >= DAYS) {
            return UNKNOWN;
        }
        if (what == 0 && v >= 0 && v <= CHANCE_MOST) {
            return exchange(now.chance, d, v);
        }
        if (what == 1 && v >= 0 && v <= RAIN_MOST) {
            return exchange(now.rain, d, v);
        }
        return WRONG;
    }

    public int boatTold(int what) {
        switch (what) {
            case LENGTH:
            case KEG:
            case RATION:
            case MILES:
                return now.told[what];
            case 4:
                return now.men;
            case 5:
                return ruleCount;
            case 6:
                return lawCount;
            case 7:
                return now.law.number;
            case 8:
                return tape.size;
            default:
                return BAD;
        }
    }

    // ---- rules, the law

    public int rule(int kind, int more, int s) {
        if (kind < 0 || kind > 5 || more < 0 || more > MORE_MOST) {
            return BAD;
        }
        Sheet sheet = null;
        if (kind == 4) {
            sheet = sheetAt(s);
            if (sheet == null) {
                return BAD;
            }
            if (sheet.isMissing()) {
                return NOTHING;
            }
            if (sheet.size != now.men || !sheet.holdsOnly(0, TOLD_MOST)) {
                return BAD;
            }
        }
        if (ruleCount < 0 || ruleCount >= RULES) {
            return FULL;
        }
        rules[ruleCount] = ruleOf(kind, more, sheet);
        ruleCount++;
        return ruleCount - 1;
    }

    public int ruleTold(int r, int what) {
        Rule rule = ruleAt(r);
        if (rule == null) {
            return UNKNOWN;
        }
        if (what < 0 || what >= 2 + MEN) {
            return WRONG;
        }
        if (what == 0) {
            return rule.kind;
        }
        return what == 1 ? rule.more : rule.toldFor(what - 2);
    }

    public int feed(long w, int n) {
        if (n < 1 || n > 8) {
            return BAD;
        }
        if (n > TAPE - tape.size) {
            return FULL;
        }
        tape.append(w, n);
        return tape.size;
    }

    public int text() {
        if (lawCount < 0 || lawCount >= TEXTS) {
            return FULL;
        }
        boolean right = tape.readWhole();
        tape.size = 0;
        if (!right) {
            return FAULTS - tape.at;
        }
        laws[lawCount] = new Law(lawCount, Arrays.copyOf(tape.code, tape.length), tape.half);
        lawCount++;
        return lawCount - 1;
    }

    public int force(int t) {
        Law law = t >= 0 && t < TEXTS ? laws[t] : null;
        if (law == null) {
            return BAD;
        }
        int was = now.law.number;
        now.law = law;
        return was;
    }

    // ---- what comes of it

    public long home(int r, int m, int part) {
        Rule rule = ruleAt(r);
        if (rule == null || !isMan(m) || !isPart(part)) {
            return NO;
        }
        voyage.sail(rule);
        return inLowestTerms(voyage.homes[m], part);
    }

    public long mean(int r, int what, int part) {
        Rule rule = ruleAt(r);
        if (rule == null || what < 0 || what > 1 || !isPart(part)) {
            return NO;
        }
        voyage.sail(rule);
        return inLowestTerms(voyage.worth(what), part);
    }

    public int told(int r, int d, int m, int what) {
        Rule rule = ruleAt(r);
        int days = now.told[LENGTH];
        if (rule == null || d < 0 || d > days || !isMan(m)) {
            return UNKNOWN;
        }
        if (what < 0 || what > 3 || (what == 1 && d == days)) {
            return WRONG;
        }
        voyage.sail(rule);
        switch (what) {
            case 0:
                return voyage.stores[d][m];
            case 1:
                return voyage.got[d][m];
            case 2:
                return voyage.kegs[d];
            default:
                return voyage.rowed[d];
        }
    }

    public int ends(int r, int what) {
        Rule rule = ruleAt(r);
        if (rule == null) {
            return UNKNOWN;
        }
        if (what < 0 || what > 2) {
            return WRONG;
        }
        voyage.sail(rule);
        if (what == 0) {
            return voyage.landed;
        }
        return what == 1 ? voyage.living(now.told[LENGTH]) : voyage.firstDeath();
    }

    public int best(int what) {
        if (what < 0 || what > 1) {
            return BAD;
        }
        int found = NONE;
        long most = NONE;
        for (int r = 0; r < ruleCount; r++) {
            Rule rule = ruleAt(r);
            if (rule != null) {
                voyage.sail(rule);
                long worth = voyage.worth(what);
                if (worth > most) {
                    most = worth;
                    found = r;
                }
            }
        }
        return found;
    }

    public int rations(int r) {
        Rule rule = ruleAt(r);
        if (rule == null) {
            return UNKNOWN;
        }
        int found = 0;
        long most = NONE;
        for (int ration = 0; ration <= RATION_MOST; ration++) {
            voyage.sailAs(rule, ration, EVERYBODY, NONE, 0);
            long worth = voyage.worth(0);
            if (worth > most) {
                most = worth;
                found = ration;
            }
        }
        return found;
    }

    public int take(int r, int set) {
        Rule rule = ruleAt(r);
        if (rule == null) {
            return UNKNOWN;
        }
        if (set <= 0 || set >= 1 << now.men) {
            return WRONG;
        }
        keepHomes(rule);
        return wouldTake(rule, set) ? 1 : 0;
    }

    public int takes(int r) {
        Rule rule = ruleAt(r);
        if (rule == null) {
            return UNKNOWN;
        }
        keepHomes(rule);
        for (int takers = 1; takers <= TAKERS_MOST; takers++) {
            for (int set = 1; set < 1 << now.men; set++) {
                if (Integer.bitCount(set) == takers && wouldTake(rule, set)) {
                    return set;
                }
            }
        }
        return NONE;
    }

    public long hid(int r, int m, int v, int part) {
        Rule rule = ruleAt(r);
        if (rule == null || !isMan(m) || v < 0 || v > HID_MOST || !isPart(part)) {
            return NO;
        }
        keepHomes(rule);
        voyage.sailAs(rule, now.told[RATION], EVERYBODY, m, v);
        return inLowestTerms(voyage.homes[m] - before[m], part);
    }

    public int judge(int r, int d, int s) {
        Rule rule = ruleAt(r);
        if (rule == null || d < 0 || d >= now.told[LENGTH]) {
            return UNKNOWN;
        }
        Sheet sheet = sheetAt(s);
        if (sheet == null) {
            return BAD;
        }
        if (sheet.isMissing()) {
            return NOTHING;
        }
        if (sheet.size != now.men) {
            return BAD;
        }
        voyage.sail(rule);
        for (int m = 0; m < now.men; m++) {
            if (sheet.numbers[m] != voyage.got[d][m]) {
                return m;
            }
        }
        return NONE;
    }

    public int until(int r, int m) {
        Rule rule = ruleAt(r);
        if (rule == null || !isMan(m)) {
            return UNKNOWN;
        }
        voyage.sail(rule);
        int last = 0;
        for (int d = 0; d < voyage.shipDays(); d++) {
            if (voyage.stores[d][m] > 0) {
                last = d;
            }
        }
        return last;
    }

    public int image() {
        if (kept == null) {
            kept = new Boat(now.law);
        }
        kept.men = now.men;
        kept.keep(now);
        return now.men;
    }

    public int back() {
        if (kept == null) {
            return STATE;
        }
        now.keep(kept);
        return now.men;
    }

    // ---- the host

    public int sheet(int s, int sort, int n) {
        Sheet sheet = sheetAt(s);
        if (sheet == null || sort < -1 || sort > 2) {
            return BAD;
        }
        if (sort == -1) {
            sheet.become(sort, 0);
            return 1;
        }
        if (n > CELLS) {
            return BAD;
        }
        if (n < 0) {
            return BELOW;
        }
        sheet.become(sort, n);
        return 1;
    }

    public int cell(int s, int i, int v) {
        Sheet sheet = sheetAt(s);
        if (sheet == null) {
            return BAD;
        }
        if (sheet.isMissing()) {
            return NOTHING;
        }
        if (i < 0 || i >= sheet.size) {
            return OUTSIDE;
        }
        sheet.numbers[i] = sheet.cut(v);
        return 1;
    }

    public int copy(int s, int i, int other, int j, int n) {
        Sheet from = sheetAt(s);
        Sheet to = sheetAt(other);
        if (from == null || to == null) {
            return BAD;
        }
        if (from.isMissing() || to.isMissing()) {
            return NOTHING;
        }
        if (from.sort != to.sort) {
            return UNLIKE;
        }
        if (!from.hasRoom(i, n) || !to.hasRoom(j, n)) {
            return OUTSIDE;
        }
        System.arraycopy(from.numbers, i, to.numbers, j, n);
        return n;
    }

    public int men(int s, int sort, int at, int n) {
        Sheet sheet = sheetAt(s);
        if (sheet == null || sort < 0 || sort > 2 || n < 0 || n > MEN) {
            return BAD;
        }
        if (sheet.isMissing()) {
            return NOTHING;
        }
        if (sheet.sort != sort) {
            return UNLIKE;
        }
        int came = 0;
        for (int k = 0; k < n; k++) {
            int place = at + 2 * k;
            if (!sheet.hasRoom(place, 2)) {
                return OUTSIDE;
            }
            if (man(sheet.numbers[place], sheet.numbers[place + 1]) >= 0) {
                came++;
            }
        }
        return came;
    }

    public int taken(int i, int kind) {
        if (kind < 0 || kind > 6) {
            return BAD;
        }
        if (i < 0 || i >= MEN + RULES) {
            return OUTSIDE;
        }
        if (i < MEN) {
            if (!isMan(i)) {
                return NOTHING;
            }
            return kind == 6 ? now.stores[i] : UNLIKE;
        }
        Rule rule = ruleAt(i - MEN);
        if (rule == null) {
            return NOTHING;
        }
        return isOfKind(rule, kind) ? i - MEN : UNLIKE;
    }

    // ---- what the calls share

    private static boolean isStore(int v) {
        return v >= 1 && v <= STORE_MOST;
    }

    private static boolean isRows(int v) {
        return v >= 0 && v <= ROWS_MOST;
    }

    private static boolean isPart(int part) {
        return part == 0 || part == 1;
    }

    private boolean isMan(int m) {
        return m >= 0 && m < now.men;
    }

    private Rule ruleAt(int r) {
        return r >= 0 && r < RULES ? rules[r] : null;
    }

    private Sheet sheetAt(int s) {
        return s >= 0 && s < SHEETS ? sheets[s] : null;
    }

    /** The number that stood there. */
    private static int exchange(int[] row, int i, int v) {
        int was = row[i];
        row[i] = v;
        return was;
    }

    private static Rule ruleOf(int kind, int more, Sheet sheet) {
        switch (kind) {
            case 1:
                return new RowRule(kind, more);
            case 2:
                return new NeedRule(kind, more);
            case 3:
                return new LotRule(kind, more);
            case 4:
                return new ToldRule(kind, more, sheet);
            case 5:
                return new LastRule(kind, more);
            default:
                return new Rule(kind, more);
        }
    }

    private static boolean isOfKind(Rule rule, int kind) {
        switch (kind) {
            case 0:
                return true;
            case 1:
                return rule instanceof RowRule;
            case 2:
                return rule instanceof NeedRule;
            case 3:
                return rule instanceof LotRule;
            case 4:
                return rule instanceof ToldRule;
            case 5:
                return rule instanceof LastRule;
            default:
                return false;
        }
    }

    private void keepHomes(Rule rule) {
        voyage.sail(rule);
        System.arraycopy(voyage.homes, 0, before, 0, MEN);
    }

    /** Against the HOMES that keepHomes() has kept. */
    private boolean wouldTake(Rule rule, int set) {
        voyage.sailAs(rule, now.told[RATION], set, NONE, 0);
        for (int m = 0; m < now.men; m++) {
            if ((set >> m & 1) == 1 && voyage.homes[m] <= before[m]) {
                return false;
            }
        }
        return true;
    }

    private static long inLowestTerms(long above, int part) {
        long common = WHOLE;
        long rest = Math.abs(above);
        // Euclid's steps on numbers below 2 ** 63 are fewer than 100.
        for (int i = 0; i < 100 && rest != 0; i++) {
            long next = common % rest;
            common = rest;
            rest = next;
        }
        if (common == 0) {
            return NO;
        }
        return part == 0 ? above / common : WHOLE / common;
    }

    /** What is told of the men, the boat and the days; an image is one, too. */
    private static final class Boat {
        int men;
        final int[] stores = new int[MEN];
        final int[] rows = new int[MEN];
        final int[] told = {6, 60, 12, 100};
        final int[] chance = new int[DAYS];
        final int[] rain = new int[DAYS];
        Law law;

        Boat(Law law) {
            this.law = law;
        }

        /** Takes over what an image keeps, which is neither MEN nor how they row. */
        void keep(Boat other) {
            System.arraycopy(other.stores, 0, stores, 0, other.men);
            System.arraycopy(other.told, 0, told, 0, BOAT);
            System.arraycopy(other.chance, 0, chance, 0, DAYS);
            System.arraycopy(other.rain, 0, rain, 0, DAYS);
            law = other.law;
        }
    }

    /** KIND 0, and what every KIND builds upon. */
    private static class Rule {
        final int kind;
        final int more;

        Rule(int kind, int more) {
            this.kind = kind;
            this.more = more;
        }

        /** Of a man who drinks on the day at which the voyage is. */
        int share(Voyage at, int man) {
            return at.drinkers > 0 ? at.ration / at.drinkers : 0;
        }

        int toldFor(int man) {
            return 0;
        }
    }

    private static class RowRule extends Rule {
        RowRule(int kind, int more) {
            super(kind, more);
        }

        int share(Voyage at, int man) {
            int change = at.boat.rows[man] > 0 ? 1 : -1;
            return Math.max(0, super.share(at, man) + change);
        }
    }

    private static class NeedRule extends Rule {
        NeedRule(int kind, int more) {
            super(kind, more);
        }

        int share(Voyage at, int man) {
            int change = at.stores[at.day][man] < more ? 2 : -1;
            return Math.max(0, super.share(at, man) + change);
        }
    }

    private static final class LotRule extends NeedRule {
        LotRule(int kind, int more) {
            super(kind, more);
        }

        int share(Voyage at, int man) {
            int plain = super.share(at, man);
            if (at.drinkers <= 0 || at.served != (7 * at.day + more) % at.drinkers) {
                return plain;
            }
            return 2 * plain;
        }
    }

    private static final class ToldRule extends Rule {
        final int[] shares = new int[MEN];

        ToldRule(int kind, int more, Sheet sheet) {
            super(kind, more);
            if (sheet != null) {
                System.arraycopy(sheet.numbers, 0, shares, 0, Math.min(sheet.size, MEN));
            }
        }

        int share(Voyage at, int man) {
            return toldFor(man);
        }

        int toldFor(int man) {
            return man >= 0 && man < MEN ? shares[man] : 0;
        }
    }

    private static final class LastRule extends RowRule {
        LastRule(int kind, int more) {
            super(kind, more);
        }

        int share(Voyage at, int man) {
            int plain = super.share(at, man);
            return at.day >= more ? plain / 2 : plain;
        }
    }

    /** The days gone through by one rule, written down as each of them begins. */
    private static final class Voyage {
        final Boat boat;
        final int[][] stores = new int[DAYS + 1][MEN];
        final int[][] got = new int[DAYS][MEN];
        final int[] kegs = new int[DAYS + 1];
        final int[] rowed = new int[DAYS + 1];
        final long[] homes = new long[MEN];
        final int[] facts = new int[NAMES];
        final int[] stack = new int[TAPE];
        Rule rule;
        int ration;
        int drinking;
        int hider;
        int hidden;
        int day;
        int drinkers;
        int served;
        int landed;

        Voyage(Boat boat) {
            this.boat = boat;
        }

        void sail(Rule by) {
            sailAs(by, boat.told[RATION], EVERYBODY, NONE, 0);
        }

        /** The set alone drinks; hider NONE: nobody hid anything. */
        void sailAs(Rule by, int dealt, int set, int hiding, int hides) {
            rule = by;
            ration = dealt;
            drinking = set;
            hider = hiding;
            hidden = hides;
            landed = NONE;
            System.arraycopy(boat.stores, 0, stores[0], 0, MEN);
            kegs[0] = boat.told[KEG];
            rowed[0] = 0;
            for (int d = 0; d < DAYS && d < boat.told[LENGTH]; d++) {
                day = d;
                carryOver();
                if (landed == NONE && living(d) > 0) {
                    kegs[d + 1] = Math.min(KEG_MOST, kegs[d] + boat.rain[d]);
                    drink();
                    rowAndLive();
                    if (rowed[d + 1] >= boat.told[MILES] && living(d + 1) > 0) {
                        landed = d;
                    }
                }
            }
            sumHomes();
        }

        /** As if nothing happened on the day. */
        private void carryOver() {
            System.arraycopy(stores[day], 0, stores[day + 1], 0, MEN);
            Arrays.fill(got[day], 0);
            kegs[day + 1] = kegs[day];
            rowed[day + 1] = rowed[day];
        }

        int living(int d) {
            int count = 0;
            for (int m = 0; m < boat.men; m++) {
                if (stores[d][m] > 0) {
                    count++;
                }
            }
            return count;
        }

        private boolean drinks(int m) {
            return stores[day][m] > 0 && (drinking >> m & 1) == 1;
        }

        private void drink() {
            drinkers = 0;
            for (int m = 0; m < boat.men; m++) {
                if (drinks(m)) {
                    drinkers++;
                }
            }
            int left = ration;
            served = 0;
            for (int m = 0; m < boat.men; m++) {
                if (drinks(m)) {
                    int most = Math.min(left, kegs[day + 1]);
                    int drunk = Math.min(most, rule.share(this, m));
                    got[day][m] = drunk;
                    kegs[day + 1] -= drunk;
                    left -= drunk;
                    served++;
                }
            }
        }

        private void rowAndLive() {
            Law law = boat.law;
            for (int m = 0; m < boat.men; m++) {
                if (stores[day][m] > 0) {
                    findFacts(m);
                    rowed[day + 1] += bound(law.row(facts, stack), ROW_MOST);
                    int less = bound(law.need(facts, stack), NEED_MOST);
                    int more = got[day][m] + fromHidden(m);
                    stores[day + 1][m] = bound(stores[day][m] + more - less, STORE_MOST);
                }
            }
        }

        private void findFacts(int m) {
            facts[-1 - NAME_STORE] = stores[day][m];
            facts[-1 - NAME_ROWS] = boat.rows[m];
            facts[-1 - NAME_DAY] = day;
            facts[-1 - NAME_SHARE] = got[day][m];
            facts[-1 - NAME_ALIVE] = drinkers;
            facts[-1 - NAME_MORE] = rule.more;
        }

        private int fromHidden(int m) {
            if (m != hider || hidden <= 0) {
                return 0;
            }
            hidden--;
            return 1;
        }

        private static int bound(int v, int most) {
            return Math.max(0, Math.min(most, v));
        }

        /** On how many days, from 0 on, a ship may come. */
        int shipDays() {
            return landed == NONE ? boat.told[LENGTH] : landed + 1;
        }

        private void sumHomes() {
            Arrays.fill(homes, 0);
            long open = WHOLE;
            for (int d = 0; d < shipDays(); d++) {
                long comes = open / 10 * boat.chance[d];
                addToLiving(d, comes);
                open -= comes;
            }
            if (landed != NONE) {
                addToLiving(landed + 1, open);
            }
        }

        private void addToLiving(int d, long chance) {
            for (int m = 0; m < boat.men; m++) {
                if (stores[d][m] > 0) {
                    homes[m] += chance;
                }
            }
        }

        /** MEAN (0) or LEAST (1), in parts of the WHOLE; 0 without men. */
        long worth(int what) {
            long all = 0;
            long least = boat.men > 0 ? WHOLE : 0;
            for (int m = 0; m < boat.men; m++) {
                all += homes[m];
                least = Math.min(least, homes[m]);
            }
            return what == 0 ? all : least;
        }

        int firstDeath() {
            for (int d = 0; d < boat.told[LENGTH]; d++) {
                if (living(d + 1) < living(d)) {
                    return d;
                }
            }
            return NONE;
        }
    }

    /** A TEXT that was read: what it says of need, then of row, operands first. */
    private static final class Law {
        final int number;
        final int[] code;
        final int half;

        Law(int number, int[] code, int half) {
            this.number = number;
            this.code = code;
            this.half = half;
        }

        int need(int[] facts, int[] stack) {
            return value(0, half, facts, stack);
        }

        int row(int[] facts, int[] stack) {
            return value(half, code.length, facts, stack);
        }

        private int value(int from, int to, int[] facts, int[] stack) {
            int top = 0;
            for (int i = from; i < to && i < code.length; i++) {
                int op = code[i];
                if (op >= NAME_MORE) {
                    if (top >= stack.length) {
                        return 0;
                    }
                    stack[top] = op >= 0 ? op : facts[-1 - op];
                    top++;
                } else if (op == NEGATIVE || op == NOT) {
                    if (top < 1) {
                        return 0;
                    }
                    stack[top - 1] = alone(op, stack[top - 1]);
                } else {
                    if (top < 2) {
                        return 0;
                    }
                    top--;
                    stack[top - 1] = joined(op, stack[top - 1], stack[top]);
                }
            }
            return top > 0 ? stack[top - 1] : 0;
        }

        private static int alone(int op, int a) {
            if (op == NEGATIVE) {
                return -a;
            }
            return a == 0 ? 1 : 0;
        }

        private static int joined(int op, int a, int b) {
            switch (op) {
                case OR:
                    return a != 0 || b != 0 ? 1 : 0;
                case AND:
                    return a != 0 && b != 0 ? 1 : 0;
                case LESS:
                    return a < b ? 1 : 0;
                case LIKE:
                    return a == b ? 1 : 0;
                case PLUS:
                    return a + b;
                case MINUS:
                    return a - b;
                default:
                    return a * b;
            }
        }
    }

    /** THE TAPE, and the reading of a TEXT from it into code. */
    private static final class Tape {
        final byte[] bytes = new byte[TAPE];
        int size;
        final int[] code = new int[TAPE];
        int length;
        int half;
        int token;
        int at;
        private int end;

        void append(long w, int n) {
            for (int i = n - 1; i >= 0 && size < TAPE; i--) {
                bytes[size] = (byte) (w >> 8 * i);
                size++;
            }
        }

        /** Whether all is a TEXT; else its FAULT is where the token begins: at. */
        boolean readWhole() {
            length = 0;
            half = 0;
            end = 0;
            next();
            if (!skip(NEED) || !level(BY_OR, 0) || !skip(STOP)) {
                return false;
            }
            half = length;
            return skip(ROW) && level(BY_OR, 0) && skip(STOP) && token == END;
        }

        private boolean skip(int wanted) {
            if (token != wanted) {
                return false;
            }
            next();
            return true;
        }

        /** What binds as tightly as told, or tighter; so many ( not - are open. */
        private boolean level(int tightness, int open) {
            if (tightness > BY_TIMES) {
                return one(open);
            }
            if (tightness == BY_LIKE && token == NOT) {
                return open < OPEN_MOST && skip(NOT) && level(BY_LIKE, open + 1) && put(NOT);
            }
            if (!level(tightness + 1, open)) {
                return false;
            }
            int signs = tightness == BY_LIKE ? 1 : TAPE;
            for (int i = 0; i < signs && tightnessOf(token) == tightness; i++) {
                int sign = token;
                next();
                if (!level(tightness + 1, open) || !put(sign)) {
                    return false;
                }
            }
            return true;
        }

        private boolean one(int open) {
            if (token >= NAME_MORE) {
                int named = token;
                next();
                return put(named);
            }
            if (token == MINUS) {
                return open < OPEN_MOST && skip(MINUS) && one(open + 1) && put(NEGATIVE);
            }
            return token == OPEN && open < OPEN_MOST && skip(OPEN)
                && level(BY_OR, open + 1) && skip(CLOSE);
        }

        private boolean put(int op) {
            if (length >= TAPE) {
                return false;
            }
            code[length] = op;
            length++;
            return true;
        }

        private static int tightnessOf(int sign) {
            switch (sign) {
                case OR:
                    return BY_OR;
                case AND:
                    return BY_AND;
                case LESS:
                case LIKE:
                    return BY_LIKE;
                case PLUS:
                case MINUS:
                    return BY_SUM;
                case TIMES:
                    return BY_TIMES;
                default:
                    return NONE;
            }
        }

        private void next() {
            at = end;
            while (at < size && (bytes[at] == ' ' || bytes[at] == '\n')) {
                at++;
            }
            end = at;
            if (at >= size) {
                token = END;
                return;
            }
            while (end < size && isLetter(bytes[end])) {
                end++;
            }
            if (end > at) {
                token = word();
                return;
            }
            while (end < size && isDigit(bytes[end])) {
                end++;
            }
            if (end > at) {
                token = number();
                return;
            }
            end++;
            token = sign(bytes[at]);
        }

        private static boolean isLetter(int b) {
            return b >= 'a' && b <= 'z';
        }

        private static boolean isDigit(int b) {
            return b >= '0' && b <= '9';
        }

        private int number() {
            if (end - at > 4) {
                return ODD;
            }
            int value = 0;
            for (int i = at; i < end; i++) {
                value = 10 * value + (bytes[i] - '0');
            }
            return value;
        }

        private static int sign(int b) {
            switch (b) {
                case '(':
                    return OPEN;
                case ')':
                    return CLOSE;
                case ';':
                    return STOP;
                case '+':
                    return PLUS;
                case '-':
                    return MINUS;
                case '*':
                    return TIMES;
                case '<':
                    return LESS;
                case '=':
                    return LIKE;
                default:
                    return ODD;
            }
        }

        private int word() {
            if (reads("need")) {
                return NEED;
            }
            if (reads("row")) {
                return ROW;
            }
            if (reads("or")) {
                return OR;
            }
            if (reads("and")) {
                return AND;
            }
            if (reads("not")) {
                return NOT;
            }
            if (reads("store")) {
                return NAME_STORE;
            }
            if (reads("rows")) {
                return NAME_ROWS;
            }
            if (reads("day")) {
                return NAME_DAY;
            }
            if (reads("share")) {
                return NAME_SHARE;
            }
            if (reads("alive")) {
                return NAME_ALIVE;
            }
            return reads("more") ? NAME_MORE : ODD;
        }

        private boolean reads(String word) {
            if (word.length() != end - at) {
                return false;
            }
            for (int i = 0; i < word.length(); i++) {
                if (bytes[at + i] != word.charAt(i)) {
                    return false;
                }
            }
            return true;
        }
    }

    /** Of sort 0 bytes, 1 shorts, 2 ints; -1: missing. */
    private static final class Sheet {
        int sort = -1;
        int size;
        final int[] numbers = new int[CELLS];

        boolean isMissing() {
            return sort < 0;
        }

        void become(int newSort, int n) {
            sort = newSort;
            size = n;
            Arrays.fill(numbers, 0);
        }

        boolean hasRoom(int from, int n) {
            return n >= 0 && n <= size && from >= 0 && from <= size - n;
        }

        boolean holdsOnly(int least, int most) {
            for (int i = 0; i < size; i++) {
                if (numbers[i] < least || numbers[i] > most) {
                    return false;
                }
            }
            return true;
        }

        int cut(int v) {
            if (sort == 0) {
                return (byte) v;
            }
            return sort == 1 ? (short) v : v;
        }
    }
}
