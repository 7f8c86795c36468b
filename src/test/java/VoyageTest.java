/** Promises 12 to 22. */
public final class VoyageTest {
    private static final long NO = LastKeg.NO;

    private VoyageTest() {
    }

    public static void main(String[] args) {
        home();
        landing();
        mean();
        told();
        ends();
        best();
        rations();
        take();
        takes();
        hid();
        judge();
        until();
        nothingChanges();
        Check.finish();
    }

    private static void fraction(String call, long above, long below, long wantAbove, long wantBelow) {
        Check.due(call + " above", above, wantAbove);
        Check.due(call + " below", below, wantBelow);
    }

    private static void home(LastKeg x, int r, int m, long above, long below) {
        fraction("12: home(" + r + ", " + m + ")", x.home(r, m, 0), x.home(r, m, 1), above, below);
    }

    /** Two days, ships by 3 and 5 tenths; man 1 is dead at the end of day 0. */
    private static LastKeg two() {
        LastKeg x = new LastKeg();
        x.man(99, 0);
        x.man(1, 0);
        x.boat(0, 2);
        x.boat(1, 0);
        x.day(0, 0, 3);
        x.day(1, 0, 5);
        x.rule(0, 0, 0);
        return x;
    }

    private static void home() {
        LastKeg x = two();
        home(x, 0, 0, 13, 20);
        home(x, 0, 1, 3, 10);
        x.day(0, 0, 0);
        home(x, 0, 1, 0, 1);
        x.day(1, 0, 0);
        home(x, 0, 0, 0, 1);
        for (int d = 0; d < 12; d++) {
            x.day(d, 0, 9);
        }
        x.boat(0, 12);
        home(x, 0, 0, 999999999999L, 1000000000000L);
        x.boat(0, 1);
        home(x, 0, 0, 9, 10);
        Check.due("12: no rule", x.home(1, 0, 0), NO);
        Check.due("12: rule -1", x.home(-1, 0, 0), NO);
        Check.due("12: no man", x.home(0, 2, 0), NO);
        Check.due("12: man -1", x.home(0, -1, 0), NO);
        Check.due("12: part 2", x.home(0, 0, 2), NO);
        Check.due("12: part -1", x.home(0, 0, -1), NO);
    }

    /** They row 4 a day; the one who rows dies as they land. */
    private static void landing() {
        LastKeg x = new LastKeg();
        x.man(99, 0);
        x.man(5, 1);
        x.boat(0, 4);
        x.boat(1, 0);
        x.boat(3, 8);
        x.rule(0, 0, 0);
        for (int d = 0; d < 4; d++) {
            x.day(d, 0, 5);
        }
        home(x, 0, 0, 1, 1);
        home(x, 0, 1, 3, 4);
        x.boat(3, 9);
        home(x, 0, 0, 15, 16);
        home(x, 0, 1, 3, 4);
        x.boat(3, 4);
        home(x, 0, 1, 1, 1);
        Check.due("ends: landed on day 0", x.ends(0, 0), 0);
        Check.due("nothing behind the landing", x.told(0, 4, 0, 0), 96);
        x.boat(3, 0);
        home(x, 0, 0, 1, 1);
        Check.due("no miles: the end of day 0", x.ends(0, 0), 0);
        x.set(0, 0, 1);
        x.set(1, 0, 1);
        Check.due("nobody lives: no landing", x.ends(0, 0), -1);
        home(x, 0, 0, 1, 2);
    }

    private static void mean() {
        LastKeg x = two();
        fraction("13: MEAN", x.mean(0, 0, 0), x.mean(0, 0, 1), 19, 20);
        fraction("13: LEAST", x.mean(0, 1, 0), x.mean(0, 1, 1), 3, 10);
        x.man(99, 0);
        fraction("13: MEAN of 3", x.mean(0, 0, 0), x.mean(0, 0, 1), 8, 5);
        LastKeg one = new LastKeg();
        one.man(1, 0);
        one.rule(0, 0, 0);
        one.day(0, 0, 4);
        one.boat(0, 1);
        fraction("13: LEAST of one", one.mean(0, 1, 0), one.mean(0, 1, 1), 2, 5);
        Check.due("13: no rule", x.mean(1, 0, 0), NO);
        Check.due("13: rule -1", x.mean(-1, 0, 0), NO);
        Check.due("13: what 2", x.mean(0, 2, 0), NO);
        Check.due("13: what -1", x.mean(0, -1, 0), NO);
        Check.due("13: part 2", x.mean(0, 0, 2), NO);
        Check.due("13: part -1", x.mean(0, 0, -1), NO);
        LastKeg none = new LastKeg();
        none.rule(0, 0, 0);
        none.day(0, 0, 5);
        fraction("13: no men", none.mean(0, 0, 0), none.mean(0, 0, 1), 0, 1);
        fraction("13: no men", none.mean(0, 1, 0), none.mean(0, 1, 1), 0, 1);
    }

    private static void told() {
        LastKeg x = new LastKeg();
        x.man(10, 2);
        x.man(4, 1);
        x.boat(0, 3);
        x.boat(1, 10);
        x.boat(2, 5);
        x.day(1, 1, 4);
        x.rule(0, 0, 0);
        // Needs 5 and 4, rowed 12; each gets 2, then what is left of 6, 4 more by rain.
        int[][] stores = {{10, 4}, {7, 2}, {4, 0}, {4, 0}};
        int[][] got = {{2, 2}, {2, 2}, {5, 0}};
        int[] kegs = {10, 6, 6, 1};
        int[] rowed = {0, 12, 24, 32};
        for (int d = 0; d <= 3; d++) {
            for (int m = 0; m < 2; m++) {
                Check.due("14: STORE " + d + " " + m, x.told(0, d, m, 0), stores[d][m]);
                Check.due("14: got " + d + " " + m, x.told(0, d, m, 1), d == 3 ? -7 : got[d][m]);
                Check.due("14: KEG " + d, x.told(0, d, m, 2), kegs[d]);
                Check.due("14: MILES " + d, x.told(0, d, m, 3), rowed[d]);
            }
        }
        Check.due("14: what 4", x.told(0, 0, 0, 4), -7);
        Check.due("14: what -1", x.told(0, 0, 0, -1), -7);
        Check.due("14: day 4", x.told(0, 4, 0, 0), -5);
        Check.due("14: day -1", x.told(0, -1, 0, 0), -5);
        Check.due("14: no man", x.told(0, 0, 2, 2), -5);
        Check.due("14: man -1", x.told(0, 0, -1, 0), -5);
        Check.due("14: no rule", x.told(1, 0, 0, 0), -5);
        Check.due("14: -5 ahead of -7", x.told(0, 4, 0, 9), -5);
        x.boat(1, 0);
        x.set(0, 0, 1);
        x.set(1, 0, 1);
        Check.due("14: no rain on the dead", x.told(0, 3, 0, 2), 0);
        Check.due("14: the dead do not row", x.told(0, 3, 0, 3), 12);
        Check.due("14: chances do not matter", x.day(0, 0, 9), 0);
        Check.due("14: no ship comes", x.told(0, 1, 0, 3), 12);
    }

    private static void ends() {
        LastKeg x = two();
        x.man(7, 1);
        Check.due("15: never landed", x.ends(0, 0), -1);
        Check.due("15: how many live", x.ends(0, 1), 1);
        Check.due("15: the first death", x.ends(0, 2), 0);
        x.set(1, 0, 50);
        Check.due("15: the first death", x.ends(0, 2), 1);
        x.set(2, 0, 50);
        Check.due("15: no death", x.ends(0, 2), -1);
        Check.due("15: all live", x.ends(0, 1), 3);
        x.boat(3, 8);
        Check.due("15: landed", x.ends(0, 0), 1);
        x.boat(3, 4);
        Check.due("15: landed", x.ends(0, 0), 0);
        Check.due("15: what 3", x.ends(0, 3), -7);
        Check.due("15: what -1", x.ends(0, -1), -7);
        Check.due("15: no rule", x.ends(1, 0), -5);
        Check.due("15: rule -1, what 9", x.ends(-1, 9), -5);
        LastKeg none = new LastKeg();
        none.rule(0, 0, 0);
        none.boat(3, 0);
        Check.due("15: nobody lands", none.ends(0, 0), -1);
        Check.due("15: nobody lives", none.ends(0, 1), 0);
        Check.due("15: nobody dies", none.ends(0, 2), -1);
    }

    /** Two men of STORE 3 who need 3; a ship by 1 tenth on day 1, by 9 on day 2. */
    private static void best() {
        LastKeg x = new LastKeg();
        Check.due("16: no rule", x.best(0), -1);
        Check.due("16: no rule", x.best(1), -1);
        Check.due("16: BAD 2", x.best(2), -2);
        Check.due("16: BAD -1", x.best(-1), -2);
        x.man(3, 0);
        x.man(3, 0);
        x.boat(0, 3);
        x.day(1, 0, 1);
        x.day(2, 0, 9);
        Check.sheet(x, 0, 0, 0);
        x.rule(4, 0, 0);
        Check.sheet(x, 0, 6, 0);
        x.rule(4, 0, 0);
        x.rule(4, 1, 0);
        Check.sheet(x, 0, 1, 1);
        x.rule(4, 0, 0);
        x.rule(0, 0, 0);
        x.rule(0, 1, 0);
        x.boat(1, 6);
        x.boat(2, 2);
        // By 1 man 0 gets 2 a day and lives on day 2: 91/100; by 3, 4, 5 both on day 1: 1/10 each.
        Check.due("16: MEAN, of like ones the first", x.best(0), 1);
        Check.due("16: LEAST, of like ones the first", x.best(1), 3);
        x.boat(1, 12);
        x.boat(2, 6);
        // By 4 and 5 both get 3 a day and live on day 2: 91/100 each.
        Check.due("16: MEAN", x.best(0), 4);
        Check.due("16: LEAST", x.best(1), 4);
        x.boat(1, 3);
        // By 1, 2, 4, 5 man 0 gets all and lives on day 1; by 3 both do.
        Check.due("16: MEAN", x.best(0), 3);
        Check.due("16: LEAST", x.best(1), 3);
        x.day(1, 0, 0);
        Check.due("16: MEAN 0 by all", x.best(0), 0);
        Check.due("16: LEAST 0 by all", x.best(1), 0);
    }

    private static void rations() {
        LastKeg x = new LastKeg();
        Check.due("17: no rule", x.rations(0), -5);
        x.rule(0, 0, 0);
        Check.due("17: no men", x.rations(0), 0);
        x.man(1, 0);
        x.boat(0, 3);
        x.day(2, 0, 9);
        // Needs 3, has 1: only by 3 does he live on, to the day of the ship.
        Check.due("17: 3", x.rations(0), 3);
        Check.due("17: -1", x.rations(-1), -5);
        Check.due("17: nothing changed", x.boatTold(2), 12);
        x.day(2, 0, 0);
        Check.due("17: of like ones the least", x.rations(0), 0);
        LastKeg most = new LastKeg();
        for (int m = 0; m < 8; m++) {
            most.man(1, 9);
        }
        most.rule(0, 0, 0);
        most.boat(1, 99);
        most.boat(0, 2);
        most.day(1, 0, 1);
        // Each needs 12, so 12 of 96; less than that leaves none alive.
        Check.due("17: 96", most.rations(0), 96);
        LastKeg alone = new LastKeg();
        alone.man(50, 0);
        alone.rule(0, 0, 0);
        Check.read(alone, "need 1;row share;");
        alone.force(1);
        alone.boat(0, 1);
        alone.boat(1, 999);
        alone.boat(3, 98);
        Check.due("17: 98", alone.rations(0), 98);
        alone.boat(3, 99);
        Check.due("17: 99", alone.rations(0), 99);
        meanOfRations();
    }

    /** Man 0 is told nothing and dies on day 0 by any ration: LEAST is 1/10. */
    private static void meanOfRations() {
        LastKeg x = new LastKeg();
        x.man(1, 0);
        x.man(3, 0);
        x.boat(0, 2);
        x.day(0, 0, 1);
        x.day(1, 0, 1);
        Check.sheet(x, 0, 0, 50);
        x.rule(4, 0, 0);
        Check.due("17: MEAN, not LEAST", x.rations(0), 1);
    }

    /** Three (or more) of STORE 1 that need 2, each rows as told, ration as told. */
    private static LastKeg thirsty(int ration, int miles, int... rows) {
        LastKeg x = new LastKeg();
        for (int row : rows) {
            x.man(1, row);
        }
        x.boat(0, 2);
        x.boat(1, 999);
        x.boat(2, ration);
        x.boat(3, miles);
        x.rule(0, 0, 0);
        Check.read(x, "need 2;row rows;");
        x.force(1);
        return x;
    }

    private static void take() {
        LastKeg x = thirsty(4, 20, 5, 5, 0);
        Check.due("18: both rowers", x.take(0, 3), 1);
        Check.due("18: one alone", x.take(0, 1), 0);
        Check.due("18: the other alone", x.take(0, 2), 0);
        Check.due("18: one with him who does not row", x.take(0, 5), 0);
        Check.due("18: all: as it was", x.take(0, 7), 0);
        x.day(1, 0, 1);
        Check.due("18: a ship comes for one", x.take(0, 4), 1);
        x.set(0, 0, 9);
        Check.due("18: no more than his HOME", x.take(0, 1), 0);
        Check.due("18: each of them", x.take(0, 5), 0);
        Check.due("18: none", x.take(0, 0), -7);
        Check.due("18: none such", x.take(0, 8), -7);
        Check.due("18: one of them none such", x.take(0, 9), -7);
        Check.due("18: below 0", x.take(0, -1), -7);
        Check.due("18: no rule", x.take(1, 1), -5);
        Check.due("18: rule -1, none", x.take(-1, 0), -5);
        LastKeg none = new LastKeg();
        none.rule(0, 0, 0);
        Check.due("18: no men", none.take(0, 1), -7);
        othersRowOn();
    }

    /** The others row while they live, and alive tells how many drink. */
    private static void othersRowOn() {
        LastKeg x = new LastKeg();
        x.man(20, 1);
        x.man(20, 1);
        x.rule(0, 0, 0);
        x.boat(0, 1);
        x.boat(3, 18);
        Check.read(x, "need 0;row (alive=1)*9;");
        Check.due("18: not by text 0", x.take(0, 1), 0);
        x.force(1);
        Check.due("18: both row 9 if one drinks", x.take(0, 1), 1);
        x.boat(3, 19);
        Check.due("18: 18 miles, no more", x.take(0, 1), 0);
    }

    private static void takes() {
        Check.due("19: 3", thirsty(4, 20, 5, 5, 0).takes(0), 3);
        Check.due("19: 5", thirsty(4, 20, 5, 0, 5).takes(0), 5);
        Check.due("19: the least of like ones", thirsty(4, 25, 5, 5, 5).takes(0), 3);
        Check.due("19: 7", thirsty(7, 35, 5, 5, 5, 5).takes(0), 7);
        Check.due("19: 14", thirsty(7, 30, 0, 5, 5, 5).takes(0), 14);
        LastKeg four = thirsty(9, 45, 5, 5, 5, 5, 5);
        Check.due("19: four are too many", four.takes(0), -1);
        Check.due("19: but they would", four.take(0, 15), 1);
        LastKeg one = thirsty(4, 20, 5, 5, 0);
        one.day(1, 0, 1);
        Check.due("19: one", one.takes(0), 1);
        one.set(0, 0, 9);
        Check.due("19: another one", one.takes(0), 2);
        Check.due("19: no rule", one.takes(1), -5);
        Check.due("19: rule -1", one.takes(-1), -5);
        LastKeg none = new LastKeg();
        none.rule(0, 0, 0);
        Check.due("19: no men", none.takes(0), -1);
        fewestFirst();
    }

    /** Man 2 would alone (4); men 0 and 1 would together (3), neither alone. */
    private static void fewestFirst() {
        LastKeg x = new LastKeg();
        x.man(50, 5);
        x.man(50, 5);
        x.man(1, 0);
        x.boat(0, 2);
        x.boat(1, 999);
        x.boat(2, 4);
        x.boat(3, 20);
        x.day(1, 0, 5);
        x.rule(0, 0, 0);
        Check.read(x, "need 2;row rows*(alive=2);");
        x.force(1);
        // All drink 1 each on day 0, and man 2 dies: 10 miles on day 1.
        Check.due("19: both would", x.take(0, 3), 1);
        Check.due("19: neither alone", x.take(0, 1) + x.take(0, 2), 0);
        Check.due("19: he would", x.take(0, 4), 1);
        Check.due("19: the fewest", x.takes(0), 4);
    }

    private static void hid(LastKeg x, int m, int v, long above, long below) {
        fraction("20: hid(0, " + m + ", " + v + ")", x.hid(0, m, v, 0), x.hid(0, m, v, 1), above, below);
    }

    private static void hid() {
        LastKeg x = new LastKeg();
        x.man(3, 0);
        x.man(3, 0);
        x.boat(0, 4);
        x.boat(1, 0);
        x.day(0, 0, 2);
        x.day(1, 0, 5);
        x.day(2, 0, 5);
        x.rule(0, 0, 0);
        hid(x, 0, 0, 0, 1);
        hid(x, 0, 1, 2, 5);
        hid(x, 1, 50, 2, 5);
        x.set(0, 0, 5);
        // 1 on day 0 leaves him 3 on day 1, the second one 1 on day 2.
        hid(x, 0, 1, 0, 1);
        hid(x, 0, 2, 1, 5);
        Check.due("20: v -1", x.hid(0, 0, -1, 0), NO);
        Check.due("20: v 51", x.hid(0, 0, 51, 0), NO);
        Check.due("20: no rule", x.hid(1, 0, 1, 0), NO);
        Check.due("20: no man", x.hid(0, 2, 1, 0), NO);
        Check.due("20: man -1", x.hid(0, -1, 1, 0), NO);
        Check.due("20: part 2", x.hid(0, 0, 1, 2), NO);
        Check.due("20: part -1", x.hid(0, 0, 1, -1), NO);
        hidHarms();
        hidIsNoShare();
    }

    /** With one more he is not below MORE on day 1, gets 2 in place of 5, needs 8. */
    private static void hidHarms() {
        LastKeg x = new LastKeg();
        x.man(5, 0);
        x.man(99, 0);
        x.boat(0, 3);
        x.boat(2, 6);
        x.day(2, 0, 5);
        x.rule(2, 5, 0);
        Check.read(x, "need 3+5*(day=1);row 0;");
        x.force(1);
        home(x, 0, 0, 1, 2);
        hid(x, 0, 1, -1, 2);
    }

    /** What he hid comes to his STORE, but it is not what he got. */
    private static void hidIsNoShare() {
        LastKeg x = new LastKeg();
        x.man(9, 0);
        x.boat(0, 1);
        x.boat(1, 0);
        x.boat(3, 1);
        x.rule(0, 0, 0);
        Check.read(x, "need 0;row share;");
        x.force(1);
        hid(x, 0, 50, 0, 1);
    }

    private static void judge() {
        LastKeg x = new LastKeg();
        x.man(10, 2);
        x.man(30, 0);
        x.man(5, 1);
        x.rule(1, 0, 0);
        Check.due("21: missing", x.judge(0, 0, 0), -11);
        Check.sheet(x, 0, 5, 3, 4);
        Check.due("21: right", x.judge(0, 0, 0), -1);
        Check.due("21: right on day 4", x.judge(0, 4, 0), -1);
        // 5 days by 12 have emptied THE KEG.
        Check.due("21: wrong on day 5", x.judge(0, 5, 0), 0);
        x.cell(0, 2, 5);
        Check.due("21: man 2", x.judge(0, 0, 0), 2);
        x.cell(0, 1, 2);
        Check.due("21: man 1", x.judge(0, 0, 0), 1);
        x.cell(0, 0, -5);
        Check.due("21: man 0", x.judge(0, 0, 0), 0);
        Check.sheet(x, 1, 5, 3);
        Check.due("21: too short", x.judge(0, 0, 1), -2);
        Check.sheet(x, 1, 5, 3, 4, 0);
        Check.due("21: too long", x.judge(0, 0, 1), -2);
        Check.due("21: SHEET 4", x.judge(0, 0, 4), -2);
        Check.due("21: SHEET -1", x.judge(0, 0, -1), -2);
        Check.due("21: no rule", x.judge(1, 0, 4), -5);
        Check.due("21: day 6", x.judge(0, 6, 4), -5);
        Check.due("21: day -1", x.judge(0, -1, 4), -5);
        x.sheet(2, 0, 3);
        x.cell(2, 0, 256 + 5);
        x.cell(2, 1, 3);
        x.cell(2, 2, 4 - 256);
        Check.due("21: bytes", x.judge(0, 0, 2), -1);
        LastKeg none = new LastKeg();
        none.rule(0, 0, 0);
        none.sheet(0, 1, 0);
        Check.due("21: no men", none.judge(0, 0, 0), -1);
        LastKeg full = new LastKeg();
        for (int m = 0; m < 8; m++) {
            full.man(9, m);
        }
        full.rule(0, 0, 0);
        Check.sheet(full, 0, 1, 1, 1, 1, 1, 1, 1, 1);
        Check.due("21: eight men", full.judge(0, 0, 0), -1);
        full.cell(0, 7, 0);
        Check.due("21: the eighth", full.judge(0, 0, 0), 7);
    }

    private static void until() {
        LastKeg x = new LastKeg();
        x.man(99, 1);
        x.man(1, 0);
        x.man(4, 0);
        x.boat(1, 0);
        x.boat(3, 9999);
        x.rule(0, 0, 0);
        Check.due("22: all days", x.until(0, 0), 5);
        Check.due("22: day 0", x.until(0, 1), 0);
        Check.due("22: day 1", x.until(0, 2), 1);
        x.boat(3, 12);
        Check.due("22: till they land", x.until(0, 0), 2);
        x.day(0, 0, 9);
        Check.due("22: whatever chances are", x.until(0, 0), 2);
        x.boat(3, 0);
        Check.due("22: day 0", x.until(0, 2), 0);
        Check.due("22: no rule", x.until(1, 0), -5);
        Check.due("22: rule -1", x.until(-1, 0), -5);
        Check.due("22: no man", x.until(0, 3), -5);
        Check.due("22: man -1", x.until(0, -1), -5);
    }

    private static void nothingChanges() {
        LastKeg x = thirsty(4, 20, 5, 5, 0);
        x.rations(0);
        x.takes(0);
        x.hid(0, 0, 50, 0);
        x.best(1);
        int[] told = {2, 999, 4, 20, 3, 1, 2, 1, 0};
        for (int what = 0; what < told.length; what++) {
            Check.due("nothing told changes", x.boatTold(what), told[what]);
        }
        home(x, 0, 0, 0, 1);
        Check.due("nothing told changes", x.set(0, 0, 1), 1);
    }
}
