import java.util.Arrays;

/** Each refused call of each promise, alone and several at once: what it answers, and that it changes nothing. */
final class Refusals {
    private static final int BAD = -2, STATE = -3, FULL = -4;
    private static final int LOW = Integer.MIN_VALUE, HIGH = Integer.MAX_VALUE;

    private Refusals() {
    }

    static void all() {
        man();
        set();
        boat();
        day();
        boatTold();
        rule();
        ruleTold();
        feed();
        text();
        force();
        home();
        mean();
        told();
        ends();
        byRule();
        take();
        hid();
        judge();
        until();
        back();
        sheet();
        cell();
        copy();
        men();
        taken();
    }

    /** For each row of numbers: refused twice, and then as an object that was not asked. */
    private static void refused(String what, State state, long want, Ask call, int[]... rows) {
        for (int[] row : rows) {
            Check.test(what + " " + Arrays.toString(row) + ", " + state, () -> {
                LastKeg x = state.make();
                Check.due("the call", call.of(x, row), want);
                Check.due("the call again", call.of(x, row), want);
                Probe.alike(x, state.make());
            });
        }
    }

    private static int[] row(int... numbers) {
        return numbers;
    }

    /** One argument alone is wrong: each of these, and as low and as high as an int goes. */
    private static int[][] wrongAt(int place, int[] right, int... wrong) {
        int[][] rows = new int[wrong.length + 2][];
        for (int i = 0; i < rows.length; i++) {
            rows[i] = right.clone();
            rows[i][place] = i < wrong.length ? wrong[i] : i == wrong.length ? LOW : HIGH;
        }
        return rows;
    }

    private static void man() {
        Ask man = (x, a) -> x.man(a[0], a[1]);
        refused("2: BAD STORE", State.SOME, BAD, man, wrongAt(0, row(0, 5), -1, 0, 100));
        refused("2: BAD ROWS", State.SOME, BAD, man, wrongAt(1, row(5, 0), -1, 10));
        refused("2: BAD STORE and ROWS", State.SOME, BAD, man, row(0, -1), row(100, 10), row(LOW, HIGH));
        refused("2: BAD, no MEN", State.EMPTY, BAD, man, row(0, 0), row(1, 10));
        refused("2: FULL", State.FULL, FULL, man, row(1, 0), row(99, 9), row(50, 5));
        refused("2: BAD ahead of FULL", State.FULL, BAD, man, row(0, 5), row(100, 5), row(5, -1), row(5, 10),
            row(LOW, LOW), row(HIGH, HIGH));
    }

    private static void set() {
        Ask set = (x, a) -> x.set(a[0], a[1], a[2]);
        refused("3: no such man", State.SOME, -5, set, wrongAt(0, row(0, 0, 5), -1, 3, 7, 8));
        refused("3: no such man", State.EMPTY, -5, set, row(0, 0, 5), row(0, 1, 5), row(-1, 0, 5));
        refused("3: no such man", State.FULL, -5, set, row(8, 0, 5), row(8, 1, 5));
        refused("3: man ahead of what and v", State.SOME, -5, set, row(3, 2, 5), row(3, 0, 0), row(-1, 1, 10),
            row(LOW, LOW, LOW), row(HIGH, HIGH, HIGH));
        refused("3: what", State.SOME, -7, set, wrongAt(1, row(2, 0, 5), -1, 2));
        refused("3: STORE", State.SOME, -7, set, wrongAt(2, row(1, 0, 5), -1, 0, 100));
        refused("3: ROWS", State.SOME, -7, set, wrongAt(2, row(0, 1, 5), -1, 10));
        refused("3: what and v", State.FULL, -7, set, row(7, 2, 0), row(7, -1, 100), row(0, LOW, HIGH));
    }

    private static void boat() {
        Ask boat = (x, a) -> x.boat(a[0], a[1]);
        refused("4: BAD what", State.SOME, BAD, boat, wrongAt(0, row(0, 5), -1, 4));
        refused("4: BAD DAYS", State.SOME, BAD, boat, wrongAt(1, row(0, 5), -1, 0, 13));
        refused("4: BAD KEG", State.SOME, BAD, boat, wrongAt(1, row(1, 5), -1, 1000));
        refused("4: BAD RATION", State.SOME, BAD, boat, wrongAt(1, row(2, 5), -1, 100));
        refused("4: BAD MILES", State.SOME, BAD, boat, wrongAt(1, row(3, 5), -1, 10000));
        refused("4: BAD what and v", State.SOME, BAD, boat, row(4, -1), row(-1, 10000), row(LOW, LOW), row(HIGH, HIGH));
        refused("4: BAD, no MEN", State.EMPTY, BAD, boat, row(0, 0), row(1, 1000), row(2, 100), row(3, 10000), row(4, 0));
    }

    private static void day() {
        Ask day = (x, a) -> x.day(a[0], a[1], a[2]);
        refused("5: day", State.SOME, -5, day, wrongAt(0, row(0, 0, 5), -1, 12));
        refused("5: day ahead of what and v", State.SOME, -5, day, row(12, 2, 5), row(-1, 0, 10), row(12, 1, 51),
            row(-1, -1, -1), row(LOW, LOW, LOW), row(HIGH, HIGH, HIGH));
        refused("5: what", State.SOME, -7, day, wrongAt(1, row(11, 0, 5), -1, 2));
        refused("5: CHANCE", State.SOME, -7, day, wrongAt(2, row(11, 0, 0), -1, 10));
        refused("5: RAIN", State.SOME, -7, day, wrongAt(2, row(0, 1, 0), -1, 51));
        refused("5: what and v", State.SOME, -7, day, row(0, 2, -1), row(0, -1, 51), row(11, LOW, HIGH));
        refused("5: day, no MEN", State.EMPTY, -5, day, row(-1, 1, 5), row(12, 1, 5));
    }

    private static void boatTold() {
        Ask boatTold = (x, a) -> x.boatTold(a[0]);
        for (State state : State.values()) {
            refused("6: BAD what", state, BAD, boatTold, wrongAt(0, row(0), -1, 9));
        }
    }

    private static void rule() {
        Ask rule = (x, a) -> x.rule(a[0], a[1], a[2]);
        refused("7: BAD KIND", State.SOME, BAD, rule, wrongAt(0, row(0, 0, 0), -1, 6));
        refused("7: BAD MORE of KIND 0", State.SOME, BAD, rule, wrongAt(1, row(0, 0, 0), -1, 100));
        refused("7: BAD MORE of KIND 4", State.SOME, BAD, rule, wrongAt(1, row(4, 0, 0), -1, 100));
        refused("7: BAD MORE of KIND 5", State.SOME, BAD, rule, wrongAt(1, row(5, 0, 0), -1, 100));
        refused("7: BAD SHEET", State.SOME, BAD, rule, wrongAt(2, row(4, 0, 0), -1, 4));
        refused("7: -11", State.SOME, -11, rule, row(4, 0, 3), row(4, 99, 3));
        refused("7: -11", State.EMPTY, -11, rule, row(4, 0, 0), row(4, 0, 3));
        refused("7: BAD size", State.SOME, BAD, rule, row(4, 0, 2));
        refused("7: BAD KIND and MORE", State.SOME, BAD, rule, row(6, 100, 0), row(LOW, LOW, LOW), row(HIGH, HIGH, HIGH));
        refused("7: BAD KIND ahead of -11", State.SOME, BAD, rule, row(6, 0, 3), row(-1, 0, 3));
        refused("7: BAD MORE ahead of -11", State.SOME, BAD, rule, row(4, -1, 3), row(4, 100, 3));
        refused("7: FULL", State.FULL, FULL, rule, row(0, 0, 0), row(1, 99, 0), row(2, 0, 0), row(3, 0, 0), row(4, 0, 3),
            row(5, 0, 0));
        refused("7: FULL, whatever SHEET", State.FULL, FULL, rule, row(0, 0, 4), row(5, 0, LOW), row(3, 0, HIGH));
        refused("7: BAD KIND ahead of FULL", State.FULL, BAD, rule, row(-1, 0, 3), row(6, 0, 3));
        refused("7: BAD MORE ahead of FULL", State.FULL, BAD, rule, row(0, -1, 0), row(4, 100, 3));
        refused("7: BAD SHEET ahead of FULL", State.FULL, BAD, rule, row(4, 0, -1), row(4, 0, 4));
        refused("7: BAD size ahead of FULL", State.FULL, BAD, rule, row(4, 0, 0), row(4, 0, 2));
    }

    private static void ruleTold() {
        Ask ruleTold = (x, a) -> x.ruleTold(a[0], a[1]);
        refused("8: no such RULE", State.SOME, -5, ruleTold, wrongAt(0, row(0, 0), -1, 3, 7, 8));
        refused("8: no such RULE", State.EMPTY, -5, ruleTold, row(0, 0), row(0, 9));
        refused("8: no such RULE", State.FULL, -5, ruleTold, row(8, 0), row(-1, 0));
        refused("8: RULE ahead of what", State.SOME, -5, ruleTold, row(3, 10), row(-1, -1), row(LOW, LOW), row(HIGH, HIGH));
        refused("8: what", State.SOME, -7, ruleTold, wrongAt(1, row(2, 0), -1, 10));
        refused("8: what", State.FULL, -7, ruleTold, wrongAt(1, row(7, 0), -1, 10));
    }

    private static void feed() {
        Ask feed = (x, a) -> x.feed(0x6161616161616161L, a[0]);
        Ask low = (x, a) -> x.feed(Long.MIN_VALUE, a[0]);
        Ask high = (x, a) -> x.feed(Long.MAX_VALUE, a[0]);
        for (State state : State.values()) {
            refused("9: BAD n", state, BAD, feed, wrongAt(0, row(0), -1, 0, 9));
            refused("9: BAD n, w as low as a long goes", state, BAD, low, row(0), row(9));
            refused("9: BAD n, w as high as a long goes", state, BAD, high, row(0), row(9));
        }
        refused("9: FULL", State.FULL, FULL, feed, row(1), row(2), row(7), row(8));
        refused("9: FULL, w as low and as high as a long goes", State.FULL, FULL, low, row(1), row(8));
    }

    private static void text() {
        refused("10: FULL ahead of the FAULT, THE TAPE stays", State.FULL, FULL, (x, a) -> x.text(), row());
    }

    private static void force() {
        Ask force = (x, a) -> x.force(a[0]);
        refused("11: BAD", State.EMPTY, BAD, force, wrongAt(0, row(0), -1, 1, 5, 6));
        refused("11: BAD", State.SOME, BAD, force, wrongAt(0, row(0), -1, 2, 5, 6));
        refused("11: BAD", State.FULL, BAD, force, wrongAt(0, row(0), -1, 6, 7));
    }

    private static void home() {
        Ask home = (x, a) -> x.home(a[0], a[1], a[2]);
        refused("12: no RULE", State.SOME, LastKeg.NO, home, wrongAt(0, row(0, 0, 0), -1, 3, 8));
        refused("12: no man", State.SOME, LastKeg.NO, home, wrongAt(1, row(0, 0, 1), -1, 3, 8));
        refused("12: no part", State.SOME, LastKeg.NO, home, wrongAt(2, row(2, 2, 0), -1, 2));
        refused("12: none of them", State.SOME, LastKeg.NO, home, row(3, 3, 2), row(LOW, LOW, LOW), row(HIGH, HIGH, HIGH));
        refused("12: none", State.EMPTY, LastKeg.NO, home, row(0, 0, 0), row(0, 0, 1));
        refused("12: none", State.FULL, LastKeg.NO, home, row(8, 7, 0), row(7, 8, 1), row(7, 7, 2));
    }

    private static void mean() {
        Ask mean = (x, a) -> x.mean(a[0], a[1], a[2]);
        refused("13: no RULE", State.SOME, LastKeg.NO, mean, wrongAt(0, row(0, 0, 0), -1, 3, 8));
        refused("13: no what", State.SOME, LastKeg.NO, mean, wrongAt(1, row(2, 0, 1), -1, 2));
        refused("13: no part", State.SOME, LastKeg.NO, mean, wrongAt(2, row(2, 1, 0), -1, 2));
        refused("13: none of them", State.SOME, LastKeg.NO, mean, row(3, 2, 2), row(LOW, LOW, LOW), row(HIGH, HIGH, HIGH));
        refused("13: none", State.EMPTY, LastKeg.NO, mean, row(0, 0, 0), row(0, 1, 1));
        refused("13: none", State.FULL, LastKeg.NO, mean, row(8, 0, 0), row(7, 2, 1));
    }

    private static void told() {
        Ask told = (x, a) -> x.told(a[0], a[1], a[2], a[3]);
        refused("14: RULE", State.SOME, -5, told, wrongAt(0, row(0, 0, 0, 0), -1, 3, 8));
        refused("14: d", State.SOME, -5, told, wrongAt(1, row(2, 0, 2, 0), -1, 9, 12));
        refused("14: man", State.SOME, -5, told, wrongAt(2, row(0, 8, 0, 0), -1, 3, 8));
        refused("14: man, of THE KEG", State.SOME, -5, told, wrongAt(2, row(0, 0, 0, 2), -1, 3));
        refused("14: man, of MILES", State.SOME, -5, told, wrongAt(2, row(0, 0, 0, 3), -1, 3));
        refused("14: what", State.SOME, -7, told, wrongAt(3, row(2, 8, 2, 0), -1, 4));
        refused("14: what 1 behind all", State.SOME, -7, told, row(0, 8, 0, 1), row(2, 8, 2, 1));
        refused("14: what 1 behind all", State.FULL, -7, told, row(7, 12, 7, 1));
        refused("14: RULE, d, man ahead of what", State.SOME, -5, told, row(3, 0, 0, 4), row(0, 9, 0, 1), row(0, 8, 3, 1),
            row(3, 9, 3, -1), row(LOW, LOW, LOW, LOW), row(HIGH, HIGH, HIGH, HIGH));
        refused("14: no RULE, no MEN", State.EMPTY, -5, told, row(0, 0, 0, 0), row(0, 0, 0, 2));
        refused("14: d behind DAYS 12", State.FULL, -5, told, row(0, 13, 0, 0), row(0, 13, 0, 1));
    }

    private static void ends() {
        Ask ends = (x, a) -> x.ends(a[0], a[1]);
        refused("15: no such RULE", State.SOME, -5, ends, wrongAt(0, row(0, 0), -1, 3, 8));
        refused("15: no such RULE", State.EMPTY, -5, ends, row(0, 0), row(0, 1), row(0, 2));
        refused("15: no such RULE", State.FULL, -5, ends, row(8, 0));
        refused("15: RULE ahead of what", State.SOME, -5, ends, row(3, 3), row(-1, -1), row(LOW, LOW), row(HIGH, HIGH));
        refused("15: what", State.SOME, -7, ends, wrongAt(1, row(2, 0), -1, 3));
    }

    private static void byRule() {
        Ask best = (x, a) -> x.best(a[0]);
        Ask rations = (x, a) -> x.rations(a[0]);
        Ask takes = (x, a) -> x.takes(a[0]);
        for (State state : State.values()) {
            refused("16: BAD what", state, BAD, best, wrongAt(0, row(0), -1, 2));
        }
        refused("17: no such RULE", State.SOME, -5, rations, wrongAt(0, row(0), -1, 3, 8));
        refused("17: no such RULE", State.EMPTY, -5, rations, row(0));
        refused("17: no such RULE", State.FULL, -5, rations, row(8));
        refused("19: no such RULE", State.SOME, -5, takes, wrongAt(0, row(0), -1, 3, 8));
        refused("19: no such RULE", State.EMPTY, -5, takes, row(0));
        refused("19: no such RULE", State.FULL, -5, takes, row(8));
    }

    private static void take() {
        Ask take = (x, a) -> x.take(a[0], a[1]);
        refused("18: no such RULE", State.SOME, -5, take, wrongAt(0, row(0, 1), -1, 3, 8));
        refused("18: no such RULE", State.EMPTY, -5, take, row(0, 1), row(0, 0));
        refused("18: RULE ahead of MEN", State.SOME, -5, take, row(3, 0), row(-1, 8), row(LOW, LOW), row(HIGH, HIGH));
        refused("18: none", State.SOME, -7, take, row(0, 0), row(2, 0));
        refused("18: none such", State.SOME, -7, take, wrongAt(1, row(0, 1), 8, 16, 128, 256, -1));
        refused("18: some of them none such", State.SOME, -7, take, row(0, 9), row(0, 15), row(0, LOW + 1), row(0, -8));
        refused("18: none such", State.FULL, -7, take, row(0, 256), row(0, 257), row(7, 511), row(7, -256));
    }

    private static void hid() {
        Ask hid = (x, a) -> x.hid(a[0], a[1], a[2], a[3]);
        refused("20: no RULE", State.SOME, LastKeg.NO, hid, wrongAt(0, row(0, 0, 1, 0), -1, 3, 8));
        refused("20: no man", State.SOME, LastKeg.NO, hid, wrongAt(1, row(0, 0, 1, 1), -1, 3, 8));
        refused("20: so much", State.SOME, LastKeg.NO, hid, wrongAt(2, row(2, 2, 1, 0), -1, 51));
        refused("20: no part", State.SOME, LastKeg.NO, hid, wrongAt(3, row(2, 2, 1, 0), -1, 2));
        refused("20: none of them", State.SOME, LastKeg.NO, hid, row(3, 3, 51, 2), row(LOW, LOW, LOW, LOW),
            row(HIGH, HIGH, HIGH, HIGH));
        refused("20: none", State.EMPTY, LastKeg.NO, hid, row(0, 0, 0, 0));
        refused("20: none", State.FULL, LastKeg.NO, hid, row(8, 0, 0, 0), row(0, 8, 0, 1));
    }

    private static void judge() {
        Ask judge = (x, a) -> x.judge(a[0], a[1], a[2]);
        refused("21: RULE", State.SOME, -5, judge, wrongAt(0, row(0, 0, 0), -1, 3, 8));
        refused("21: RULE", State.EMPTY, -5, judge, row(0, 0, 0));
        refused("21: day", State.SOME, -5, judge, wrongAt(1, row(2, 0, 0), -1, 8, 9));
        refused("21: day", State.FULL, -5, judge, row(0, 12, 3));
        refused("21: RULE, day ahead of SHEET", State.SOME, -5, judge, row(3, 0, 4), row(0, 8, -1), row(0, 8, 3), row(3, 0, 2),
            row(LOW, LOW, LOW), row(HIGH, HIGH, HIGH));
        refused("21: BAD SHEET", State.SOME, BAD, judge, wrongAt(2, row(0, 0, 0), -1, 4));
        refused("21: -11", State.SOME, -11, judge, row(0, 0, 3), row(2, 7, 3));
        refused("21: BAD size", State.SOME, BAD, judge, row(0, 0, 2));
        refused("21: BAD size", State.FULL, BAD, judge, row(0, 0, 0), row(7, 11, 2));
    }

    private static void until() {
        Ask until = (x, a) -> x.until(a[0], a[1]);
        refused("22: no RULE", State.SOME, -5, until, wrongAt(0, row(0, 0), -1, 3, 8));
        refused("22: no man", State.SOME, -5, until, wrongAt(1, row(2, 0), -1, 3, 8));
        refused("22: neither", State.SOME, -5, until, row(3, 3), row(LOW, LOW), row(HIGH, HIGH));
        refused("22: none", State.EMPTY, -5, until, row(0, 0));
        refused("22: none", State.FULL, -5, until, row(8, 0), row(0, 8));
    }

    private static void back() {
        refused("24: STATE without AN IMAGE", State.EMPTY, STATE, (x, a) -> x.back(), row());
    }

    private static void sheet() {
        Ask sheet = (x, a) -> x.sheet(a[0], a[1], a[2]);
        refused("25: BAD SHEET", State.SOME, BAD, sheet, wrongAt(0, row(0, 0, 1), -1, 4));
        refused("25: BAD SHEET, missing", State.SOME, BAD, sheet, wrongAt(0, row(0, -1, 1), -1, 4));
        refused("25: BAD sort", State.SOME, BAD, sheet, wrongAt(1, row(0, 0, 1), -2, 3));
        refused("25: n above 40", State.SOME, BAD, sheet, row(0, 0, 41), row(1, 1, 41), row(2, 2, 41), row(2, 2, HIGH));
        refused("25: n below 0", State.SOME, -14, sheet, row(0, 0, -1), row(1, 1, -1), row(2, 2, -1), row(2, 2, LOW));
        refused("25: BAD ahead of -14", State.SOME, BAD, sheet, row(4, 0, -1), row(0, 3, -1), row(-1, -2, LOW));
        refused("25: all of it BAD", State.SOME, BAD, sheet, row(4, 3, 41), row(LOW, LOW, LOW), row(HIGH, HIGH, HIGH));
        refused("25: BAD, and -14, no SHEET made", State.EMPTY, BAD, sheet, row(4, 0, 1), row(0, 3, 1), row(0, 0, 41));
        refused("25: -14, no SHEET made", State.EMPTY, -14, sheet, row(0, 0, -1), row(3, 2, LOW));
        refused("25: BAD", State.FULL, BAD, sheet, row(0, 0, 41), row(1, -2, 0));
    }

    private static void cell() {
        Ask cell = (x, a) -> x.cell(a[0], a[1], a[2]);
        refused("26: BAD SHEET", State.SOME, BAD, cell, wrongAt(0, row(0, 0, 1), -1, 4));
        refused("26: -11", State.SOME, -11, cell, row(3, 0, 1), row(3, 0, LOW), row(3, 0, HIGH));
        refused("26: -11", State.EMPTY, -11, cell, row(0, 0, 1), row(1, 0, 1), row(2, 0, 1), row(3, 0, 1));
        refused("26: -12 of bytes", State.SOME, -12, cell, wrongAt(1, row(0, 0, 1), -1, 3));
        refused("26: -12 of shorts", State.SOME, -12, cell, wrongAt(1, row(1, 0, 1), -1, 3));
        refused("26: -12 of 40 ints", State.SOME, -12, cell, wrongAt(1, row(2, 0, 1), -1, 40));
        refused("26: BAD ahead of -11, -12", State.SOME, BAD, cell, row(4, 99, 1), row(-1, -1, 1), row(LOW, LOW, LOW));
        refused("26: -11 ahead of -12", State.SOME, -11, cell, row(3, -1, 1), row(3, 40, 1), row(3, LOW, LOW), row(3,
            HIGH, HIGH));
        refused("26: -12 of a full one", State.FULL, -12, cell, row(0, 40, 1), row(1, 40, 1), row(2, 40, 1), row(3, 8, 1));
    }

    private static void copy() {
        Ask copy = (x, a) -> x.copy(a[0], a[1], a[2], a[3], a[4]);
        refused("27: BAD SHEET", State.SOME, BAD, copy, wrongAt(0, row(0, 0, 0, 0, 1), -1, 4));
        refused("27: BAD other", State.SOME, BAD, copy, wrongAt(2, row(0, 0, 0, 0, 1), -1, 4));
        refused("27: -11", State.SOME, -11, copy, row(3, 0, 0, 0, 1), row(0, 0, 3, 0, 1), row(3, 0, 3, 0, 0));
        refused("27: -13", State.SOME, -13, copy, row(0, 0, 1, 0, 1), row(1, 0, 0, 0, 1), row(0, 0, 2, 0, 1),
            row(2, 0, 1, 0, 1), row(2, 0, 0, 0, 0));
        refused("27: -12, i", State.SOME, -12, copy, wrongAt(1, row(2, 0, 2, 0, 1), -1, 40, 41));
        refused("27: -12, j", State.SOME, -12, copy, wrongAt(3, row(2, 0, 2, 0, 1), -1, 40, 41));
        refused("27: -12, n", State.SOME, -12, copy, wrongAt(4, row(2, 0, 2, 0, 1), -1, 41));
        refused("27: -12, i and n", State.SOME, -12, copy, row(2, 1, 2, 0, 40), row(2, 39, 2, 0, 2), row(2, 2, 2, 0, HIGH));
        refused("27: -12, j and n", State.SOME, -12, copy, row(2, 0, 2, 1, 40), row(2, 0, 2, 39, 2), row(2, 0, 2, HIGH, 3));
        refused("27: -12, none from outside", State.SOME, -12, copy, row(2, 41, 2, 0, 0), row(2, 0, 2, 41, 0),
            row(2, -1, 2, 0, 0), row(2, 0, 2, -1, 0));
        refused("27: BAD ahead of -11", State.SOME, BAD, copy, row(4, 0, 3, 0, 1), row(3, 0, -1, 0, 1));
        refused("27: BAD ahead of -12", State.SOME, BAD, copy, row(4, 9, 0, 9, -1), row(LOW, LOW, LOW, LOW, LOW),
            row(HIGH, HIGH, HIGH, HIGH, HIGH));
        refused("27: -11 ahead of -12", State.SOME, -11, copy, row(3, 0, 0, 99, -1), row(0, 99, 3, 0, 1));
        refused("27: -13 ahead of -12", State.SOME, -13, copy, row(0, 9, 1, 9, 9), row(0, 0, 1, 0, -1));
    }

    private static void men() {
        Ask men = (x, a) -> x.men(a[0], a[1], a[2], a[3]);
        refused("28: BAD SHEET", State.SOME, BAD, men, wrongAt(0, row(0, 0, 0, 1), -1, 4));
        refused("28: BAD sort", State.SOME, BAD, men, wrongAt(1, row(0, 0, 0, 1), -1, 3));
        refused("28: BAD n", State.SOME, BAD, men, wrongAt(3, row(2, 2, 0, 1), -1, 9));
        refused("28: BAD n, FULL", State.FULL, BAD, men, row(0, 0, 0, 9), row(0, 0, 0, -1));
        refused("28: -11", State.SOME, -11, men, row(3, 0, 0, 1), row(3, 2, 0, 0));
        refused("28: -11", State.EMPTY, -11, men, row(0, 0, 0, 1), row(3, 2, 0, 8));
        refused("28: -13", State.SOME, -13, men, row(0, 1, 0, 1), row(0, 2, 0, 1), row(1, 0, 0, 1), row(2, 0, 0, 1),
            row(2, 1, 0, 0));
        refused("28: -12", State.SOME, -12, men, wrongAt(2, row(2, 2, 0, 1), -1, -2, 39, 40, 41));
        refused("28: -12, all 8", State.SOME, -12, men, row(2, 2, -2, 8), row(2, 2, LOW, 8), row(2, 2, HIGH, 8),
            row(2, 2, HIGH - 1, 8));
        refused("28: -12, no MEN come any more", State.FULL, -12, men, row(0, 0, 39, 1), row(0, 0, 26, 8));
        refused("28: BAD ahead of -11", State.SOME, BAD, men, row(4, 3, 0, 9), row(3, 3, 0, 1), row(3, 0, 0, 9),
            row(3, -1, 0, 1));
        refused("28: BAD ahead of -13", State.SOME, BAD, men, row(0, 1, 0, 9), row(0, 1, 0, -1));
        refused("28: BAD ahead of -12", State.SOME, BAD, men, row(2, 2, -1, 9), row(LOW, LOW, LOW, LOW),
            row(HIGH, HIGH, HIGH, HIGH));
        refused("28: -11 ahead of -12", State.SOME, -11, men, row(3, 2, -1, 1), row(3, 2, HIGH, 8));
        refused("28: -13 ahead of -12", State.SOME, -13, men, row(0, 1, -1, 1), row(0, 1, LOW, 8));
    }

    private static void taken() {
        Ask taken = (x, a) -> x.taken(a[0], a[1]);
        refused("29: BAD kind", State.SOME, BAD, taken, wrongAt(1, row(0, 6), -1, 7));
        refused("29: -12", State.SOME, -12, taken, wrongAt(0, row(0, 6), -1, 16));
        refused("29: -11", State.SOME, -11, taken, row(3, 6), row(7, 6), row(7, 0), row(11, 0), row(15, 5), row(15, 6));
        refused("29: -11", State.EMPTY, -11, taken, row(0, 6), row(7, 6), row(8, 0), row(15, 0));
        refused("29: -13, a man", State.SOME, -13, taken, row(0, 0), row(0, 1), row(0, 2), row(0, 3), row(0, 4), row(2, 5));
        refused("29: -13, a RULE", State.SOME, -13, taken, row(8, 6), row(8, 1), row(8, 5), row(9, 3), row(9, 1), row(10, 2),
            row(10, 6));
        refused("29: BAD ahead of -12", State.SOME, BAD, taken, row(16, 7), row(-1, -1), row(LOW, LOW), row(HIGH, HIGH));
        refused("29: BAD ahead of -11", State.SOME, BAD, taken, row(3, 7), row(15, -1));
        refused("29: BAD ahead of -13", State.SOME, BAD, taken, row(0, 7), row(8, 7));
        refused("29: -12, all full", State.FULL, -12, taken, row(16, 0), row(-1, 6));
    }
}
