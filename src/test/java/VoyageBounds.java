import java.util.function.Supplier;

/** SHIPS, HOME, MEAN, LEAST, TAKE, HID and what else comes of it: promises 12 to 22. */
final class VoyageBounds {
    private static final int LOW = Integer.MIN_VALUE, HIGH = Integer.MAX_VALUE;

    private VoyageBounds() {
    }

    static void all() {
        chances();
        ships();
        shipsAndLand();
        homes();
        means();
        told();
        ends();
        best();
        rations();
        take();
        takes();
        hid();
        hidDays();
        judge();
        judgedSheets();
        until();
        asking();
    }

    /** MEN with these STORES, nothing in THE KEG: each needs 3 a day by the first text. */
    private static LastKeg dry(int days, int... stores) {
        LastKeg x = new LastKeg();
        for (int store : stores) {
            x.man(store, 0);
        }
        x.boat(0, days);
        x.boat(1, 0);
        x.boat(3, 9999);
        x.rule(0, 0, 0);
        return x;
    }

    private static LastKeg chances(LastKeg x, int... tenths) {
        for (int d = 0; d < tenths.length; d++) {
            x.day(d, 0, tenths[d]);
        }
        return x;
    }

    private static void home(LastKeg x, int m, long above, long below) {
        Check.due("HOME of " + m + ", above", x.home(0, m, 0), above);
        Check.due("HOME of " + m + ", below", x.home(0, m, 1), below);
    }

    private static void chances() {
        String idle = "need 0;row 0;";
        Check.test("12: CHANCE 0 on all days is 0 by 1", () -> home(dry(12, 99), 0, 0, 1));
        Check.test("12: CHANCE 9 on each of 12 days", () -> home(
            chances(Boats.law(dry(12, 9), idle), 9, 9, 9, 9, 9, 9, 9, 9, 9, 9, 9, 9), 0, 999999999999L, 1000000000000L));
        Check.test("12: CHANCE 1 on each of 12 days", () -> home(
            chances(Boats.law(dry(12, 9), idle), 1, 1, 1, 1, 1, 1, 1, 1, 1, 1, 1, 1), 0, 717570463519L, 1000000000000L));
        Check.test("12: CHANCE 5 on each of 12 days, in lowest terms", () -> home(
            chances(Boats.law(dry(12, 9), idle), 5, 5, 5, 5, 5, 5, 5, 5, 5, 5, 5, 5), 0, 4095, 4096));
        for (int t = 1; t <= 9; t++) {
            int tenths = t;
            int common = t == 5 ? 5 : t % 2 == 0 ? 2 : 1;
            Check.test("12: CHANCE " + t + " on day 0 alone", () ->
                home(chances(dry(1, 9), tenths), 0, tenths / common, 10 / common));
        }
        Check.test("12: CHANCE 9 on day 11 alone", () ->
            home(chances(Boats.law(dry(12, 9), idle), 0, 0, 0, 0, 0, 0, 0, 0, 0, 0, 0, 9), 0, 9, 10));
        Check.test("12: CHANCE behind DAYS does not matter", () -> home(chances(dry(2, 99), 0, 0, 9), 0, 0, 1));
        Check.test("12: CHANCE on the last of DAYS does", () -> home(chances(dry(3, 99), 0, 0, 9), 0, 9, 10));
        Check.test("12: DAYS 1, day 0 alone", () -> home(chances(dry(1, 99), 3, 9, 9), 0, 3, 10));
    }

    private static void ships() {
        Check.test("12: a SHIP comes if none did ahead", () -> home(chances(dry(2, 99), 4, 3), 0, 29, 50));
        Check.test("12: a SHIP fetches one on the day on which he dies", () -> home(chances(dry(2, 3), 4, 0), 0, 2, 5));
        Check.test("12: a SHIP on the day behind does not", () -> home(chances(dry(2, 3), 0, 4), 0, 0, 1));
        Check.test("12: by STORE 4 he lives a day longer", () -> home(chances(dry(2, 4), 0, 4), 0, 2, 5));
        Check.test("12: a SHIP that fetched the others does not come for him", () -> {
            LastKeg x = chances(dry(2, 3, 4), 4, 5);
            home(x, 0, 2, 5);
            home(x, 1, 7, 10);
        });
        Check.test("12: CHANCES are of no matter for the days themselves", () -> {
            LastKeg x = chances(dry(2, 3, 4), 9, 9);
            Check.due("STORE", x.told(0, 1, 1, 0), 1);
            Check.due("lives", x.ends(0, 1), 0);
        });
    }

    /** He who rows has 4 miles a day and needs 4; land is at the end of day 1. */
    private static LastKeg landing(int store, int rowers, int... tenths) {
        LastKeg x = chances(dry(6, store), tenths);
        x.man(rowers, 1);
        x.boat(3, 8);
        return x;
    }

    private static void shipsAndLand() {
        Check.test("12: who LANDS alive, 1 by 1 without SHIPS", () -> home(landing(50, 50), 0, 1, 1));
        Check.test("12: who LANDS alive, 1 by 1 with SHIPS", () -> home(landing(50, 50, 9, 9, 9), 0, 1, 1));
        Check.test("12: who dies on the day of the landing, without SHIPS", () -> home(landing(6, 50), 0, 0, 1));
        Check.test("12: who lives with 1 at the end of it", () -> home(landing(7, 50), 0, 1, 1));
        Check.test("12: a SHIP on the day of the landing fetches who dies on it", () ->
            home(landing(6, 50, 0, 4), 0, 2, 5));
        Check.test("12: no SHIP behind the landing", () -> home(landing(6, 50, 0, 0, 9, 9, 9, 9), 0, 0, 1));
        Check.test("12: he who died ahead of the landing", () -> home(landing(3, 50, 1, 9, 9), 0, 1, 10));
        Check.test("12: the rower dies as they LAND, the other is HOME", () -> {
            LastKeg x = landing(50, 8, 0, 4);
            home(x, 0, 1, 1);
            home(x, 1, 2, 5);
        });
        Check.test("12: all die at the end of it, no landing, SHIPS alone", () -> {
            LastKeg x = landing(6, 8, 1, 5, 9);
            home(x, 0, 11, 20);
            home(x, 1, 11, 20);
        });
        Check.test("12: they LAND at the end of the last of DAYS", () -> {
            LastKeg x = landing(50, 50);
            x.boat(0, 2);
            home(x, 0, 1, 1);
            x.boat(0, 1);
            home(x, 0, 0, 1);
        });
        Check.test("12: 0 MILES, a SHIP may come on day 0 alone", () -> {
            LastKeg x = landing(3, 50, 4, 9);
            x.boat(3, 0);
            home(x, 0, 2, 5);
            home(x, 1, 1, 1);
        });
    }

    /** 8 RULES, 8 MEN; by RULE 7 man 7 alone gets what he needs and lives on day 1. */
    private static LastKeg eight() {
        LastKeg x = dry(2, 2, 2, 2, 2, 2, 2, 2, 2);
        x.boat(1, 999);
        x.boat(2, 8);
        for (int r = 1; r < 7; r++) {
            x.rule(0, 0, 0);
        }
        Check.sheet(x, 0, 0, 0, 0, 0, 0, 0, 0, 8);
        x.rule(4, 0, 0);
        return chances(x, 1, 5);
    }

    private static void homes() {
        Supplier<LastKeg> made = VoyageBounds::eight;
        Range.answered("12: a RULE is taken", made, (x, v) -> x.home(v, 0, 1), 10, 0, 1, 6, 7);
        Range.answered("12: a RULE is refused", made, (x, v) -> x.home(v, 0, 0), LastKeg.NO, LOW, -1, 8, HIGH);
        Range.answered("12: a man is taken", made, (x, v) -> x.home(0, v, 1), 10, 0, 1, 6, 7);
        Range.answered("12: a man is refused", made, (x, v) -> x.home(0, v, 0), LastKeg.NO, LOW, -1, 8, HIGH);
        Range.answered("12: a part is refused", made, (x, v) -> x.home(0, 0, v), LastKeg.NO, LOW, -1, 2, HIGH);
        Check.test("12: parts 0 and 1 of RULE 7 and man 7", () -> {
            Check.due("above", eight().home(7, 7, 0), 11);
            Check.due("below", eight().home(7, 7, 1), 20);
            Check.due("of man 6, above", eight().home(7, 6, 0), 1);
            Check.due("of man 6, below", eight().home(7, 6, 1), 10);
        });
    }

    private static void mean(LastKeg x, int what, long above, long below) {
        Check.due("what " + what + ", above", x.mean(0, what, 0), above);
        Check.due("what " + what + ", below", x.mean(0, what, 1), below);
    }

    private static void means() {
        Check.test("13: MEAN without MEN is 0 by 1", () -> mean(chances(dry(2), 9, 9), 0, 0, 1));
        Check.test("13: LEAST without MEN is 0 by 1", () -> mean(chances(dry(2), 9, 9), 1, 0, 1));
        Check.test("13: MEAN and LEAST without MEN, 0 MILES", () -> {
            LastKeg x = dry(2);
            x.boat(3, 0);
            mean(x, 0, 0, 1);
            mean(x, 1, 0, 1);
        });
        Check.test("13: MEAN and LEAST of one man are his HOME", () -> {
            LastKeg x = chances(dry(2, 50), 4, 3);
            mean(x, 0, 29, 50);
            mean(x, 1, 29, 50);
        });
        Check.test("13: MEAN of 8 MEN who LAND is 8 by 1, LEAST 1 by 1", () -> {
            LastKeg x = dry(1, 9, 9, 9, 9, 9, 9, 9, 9);
            x.boat(3, 0);
            mean(x, 0, 8, 1);
            mean(x, 1, 1, 1);
        });
        Check.test("13: MEAN of 8 MEN, CHANCE 9 on 12 days", () -> {
            LastKeg x = Boats.law(dry(12, 9, 9, 9, 9, 9, 9, 9, 9), "need 0;row 0;");
            chances(x, 9, 9, 9, 9, 9, 9, 9, 9, 9, 9, 9, 9);
            mean(x, 0, 999999999999L, 125000000000L);
            mean(x, 1, 999999999999L, 1000000000000L);
        });
        Check.test("13: LEAST is the first man's", () -> mean(chances(dry(2, 3, 9, 9), 1, 5), 1, 1, 10));
        Check.test("13: LEAST is the last man's", () -> mean(chances(dry(2, 9, 9, 3), 1, 5), 1, 1, 10));
        Check.test("13: LEAST is 0 by 1, MEAN is not", () -> {
            LastKeg x = chances(dry(2, 9, 3), 0, 5);
            mean(x, 0, 1, 2);
            mean(x, 1, 0, 1);
        });
        Supplier<LastKeg> made = VoyageBounds::eight;
        Range.answered("13: a RULE is taken", made, (x, v) -> x.mean(v, 1, 1), 10, 0, 1, 6, 7);
        Range.answered("13: a RULE is refused", made, (x, v) -> x.mean(v, 0, 0), LastKeg.NO, LOW, -1, 8, HIGH);
        Range.answered("13: what is refused", made, (x, v) -> x.mean(0, v, 0), LastKeg.NO, LOW, -1, 2, HIGH);
        Range.answered("13: a part is refused", made, (x, v) -> x.mean(0, 0, v), LastKeg.NO, LOW, -1, 2, HIGH);
        Check.test("13: RULE 7, MEAN and LEAST", () -> {
            // 7 by 1/10 and one by 11/20.
            Check.due("MEAN above", eight().mean(7, 0, 0), 5);
            Check.due("MEAN below", eight().mean(7, 0, 1), 4);
            Check.due("LEAST above", eight().mean(7, 1, 0), 1);
            Check.due("LEAST below", eight().mean(7, 1, 1), 10);
        });
    }

    private static void told() {
        Supplier<LastKeg> made = VoyageBounds::eight;
        Range.answered("14: a RULE is taken", made, (x, v) -> x.told(v, 0, 0, 0), 2, 0, 1, 6, 7);
        Range.answered("14: a RULE is refused", made, (x, v) -> x.told(v, 0, 0, 0), -5, LOW, -1, 8, HIGH);
        Range.answered("14: a man is taken", made, (x, v) -> x.told(0, 0, v, 0), 2, 0, 1, 6, 7);
        Range.answered("14: a man is refused", made, (x, v) -> x.told(0, 0, v, 0), -5, LOW, -1, 8, HIGH);
        Range.answered("14: what is refused", made, (x, v) -> x.told(0, 0, 0, v), -7, LOW, -1, 4, HIGH);
        Range.answered("14: what is refused behind all", made, (x, v) -> x.told(0, 2, 0, v), -7, LOW, -1, 1, 4, HIGH);
        Range.answered("14: d is taken, DAYS 1", () -> dry(1, 50), (x, v) -> x.told(0, v, 0, 2), 0, 0, 1);
        Range.answered("14: d is refused, DAYS 1", () -> dry(1, 50), (x, v) -> x.told(0, v, 0, 2), -5, LOW, -1, 2, HIGH);
        Range.answered("14: d is taken, DAYS 12", () -> dry(12, 50), (x, v) -> x.told(0, v, 0, 2), 0, 0, 11, 12);
        Range.answered("14: d is refused, DAYS 12", () -> dry(12, 50), (x, v) -> x.told(0, v, 0, 2), -5, LOW, -1, 13, HIGH);
        Check.test("14: what he gets, on the last day and behind all", () -> {
            LastKeg x = dry(2, 50);
            x.boat(1, 99);
            Check.due("on day 1", x.told(0, 1, 0, 1), 12);
            Check.due("behind all", x.told(0, 2, 0, 1), -7);
        });
        Check.test("14: day 0 begins with what is told", () -> {
            LastKeg x = State.SOME.make();
            Check.due("STORE", x.told(0, 0, 2, 0), 31);
            Check.due("he gets", x.told(0, 0, 2, 1), 9);
            Check.due("THE KEG", x.told(0, 0, 0, 2), 500);
            Check.due("MILES", x.told(0, 0, 0, 3), 0);
        });
        Check.test("14: what 2 and 3 are alike for each man", () -> {
            LastKeg x = State.SOME.make();
            for (int m = 0; m < 3; m++) {
                Check.due("THE KEG", x.told(0, 1, m, 2), 500 + 1 - 21);
                Check.due("MILES", x.told(0, 1, m, 3), 27);
            }
        });
        Check.test("14: no SHIP is coming", () -> {
            LastKeg x = chances(dry(3, 50), 9, 9, 9);
            Check.due("STORE behind all", x.told(0, 3, 0, 0), 41);
        });
    }

    private static void ends() {
        Supplier<LastKeg> made = VoyageBounds::eight;
        Range.answered("15: a RULE is refused", made, (x, v) -> x.ends(v, 0), -5, LOW, -1, 8, HIGH);
        Range.answered("15: what is refused", made, (x, v) -> x.ends(0, v), -7, LOW, -1, 3, HIGH);
        Check.test("15: nobody dies", () -> ends(dry(12, 99, 99), -1, 2, -1));
        Check.test("15: all die on day 0", () -> ends(dry(12, 3, 3), -1, 0, 0));
        Check.test("15: one dies on the last of DAYS", () -> ends(dry(12, 36, 99), -1, 1, 11));
        Check.test("15: one dies a day behind DAYS", () -> ends(dry(11, 36, 99), -1, 2, -1));
        Check.test("15: the first of two deaths", () -> ends(dry(12, 9, 6, 99), -1, 1, 1));
        Check.test("15: all 8 live", () -> ends(dry(1, 9, 9, 9, 9, 9, 9, 9, 9), -1, 8, -1));
        Check.test("15: no MEN", () -> ends(dry(12), -1, 0, -1));
        Check.test("15: they LAND on day 0, one dies on it", () -> {
            LastKeg x = dry(1, 3, 9);
            x.boat(3, 0);
            ends(x, 0, 1, 0);
        });
        Check.test("15: nobody dies behind the landing", () -> {
            LastKeg x = dry(12, 9, 9);
            x.boat(3, 0);
            ends(x, 0, 2, -1);
        });
        Check.test("15: RULE 7", () -> {
            Check.due("lives", eight().ends(7, 1), 1);
            Check.due("the first death", eight().ends(7, 2), 0);
        });
    }

    private static void ends(LastKeg x, int... due) {
        for (int what = 0; what < 3; what++) {
            Check.due("ends " + what, x.ends(0, what), due[what]);
        }
    }

    private static void best() {
        Range.answered("16: what is refused without a RULE", LastKeg::new, (x, v) -> x.best(v), -2, LOW, -1, 2, HIGH);
        Range.answered("16: what is refused with 8 RULES", VoyageBounds::eight, (x, v) -> x.best(v), -2, LOW, -1, 2, HIGH);
        Range.answered("16: no RULE", LastKeg::new, (x, v) -> x.best(v), -1, 0, 1);
        Range.answered("16: no RULE, but MEN", () -> Boats.still(9, 5, 0), (x, v) -> x.best(v), -1, 0, 1);
        Range.answered("16: one RULE by which nobody comes HOME", () -> dry(6, 3), (x, v) -> x.best(v), 0, 0, 1);
        Range.answered("16: RULES without MEN: the first", LastKeg::new, (x, v) -> {
            x.rule(1, 0, 0);
            x.rule(2, 0, 0);
            return x.best(v);
        }, 0, 0, 1);
        Check.test("16: the eighth RULE", () -> Check.due("MEAN", eight().best(0), 7));
        Check.test("16: of 8 like ones the first", () -> Check.due("LEAST", eight().best(1), 0));
        Check.test("16: of like ones the first, behind lesser ones", () -> {
            LastKeg x = chances(Boats.still(50, 3, 0), 0, 5);
            x.force(0);
            for (int t : new int[] {0, 3, 50, 0, 9}) {
                Check.sheet(x, 0, t);
                x.rule(4, 0, 0);
            }
            Check.due("MEAN", x.best(0), 1);
            Check.due("LEAST", x.best(1), 1);
        });
        Check.test("16: MEAN and LEAST by other RULES", () -> {
            LastKeg x = chances(Boats.still(50, 3, 0, 3, 0), 0, 1, 9);
            x.force(0);
            x.boat(0, 3);
            Check.sheet(x, 0, 0, 50);
            x.rule(4, 0, 0);
            Check.sheet(x, 0, 1, 1);
            x.rule(4, 0, 0);
            // 0 and 91/100; 1/10 and 1/10.
            Check.due("MEAN", x.best(0), 0);
            Check.due("LEAST", x.best(1), 1);
        });
    }

    /** One man alone, THE KEG is full: they LAND on day 0 if the text says 1. */
    private static LastKeg rowsIf(String e) {
        LastKeg x = Boats.still(12, 50, 0);
        x.boat(0, 1);
        x.boat(3, 1);
        x.rule(0, 0, 0);
        return Boats.law(x, "need 0;row " + e + ";");
    }

    private static void rations() {
        Range.answered("17: a RULE is refused", VoyageBounds::eight, (x, v) -> x.rations(v), -5, LOW, -1, 8, HIGH);
        Range.answered("17: a RULE is taken", VoyageBounds::eight, (x, v) -> x.rations(v), 16, 0, 6);
        Check.test("17: RULE 7", () -> Check.due("rations", eight().rations(7), 2));
        Check.test("17: no RULE", () -> Check.due("rations", new LastKeg().rations(0), -5));
        Check.test("17: no MEN", () -> Check.due("rations", dry(6).rations(0), 0));
        for (int ration : new int[] {0, 1, 12, 98, 99}) {
            Check.test("17: THE RATION " + ration + " alone", () ->
                Check.due("rations", rowsIf("share=" + ration).rations(0), ration));
        }
        Check.test("17: THE RATION 100 is none", () ->
            Check.due("rations", rowsIf("share=100").rations(0), 0));
        Check.test("17: of like ones the least, 98 and 99", () ->
            Check.due("rations", rowsIf("97<share").rations(0), 98));
        Check.test("17: of like ones the least, all of them", () -> Check.due("rations", rowsIf("1").rations(0), 0));
        Check.test("17: of like ones the least, nobody comes HOME", () -> Check.due("rations", rowsIf("0").rations(0), 0));
        Check.test("17: THE RATION that is told does not matter, and stays", () -> {
            LastKeg x = rowsIf("share=40");
            for (int told : new int[] {0, 40, 99}) {
                x.boat(2, told);
                Check.due("rations", x.rations(0), 40);
                Check.due("THE RATION", x.boatTold(2), told);
                Check.due("HOME", x.home(0, 0, 0), told == 40 ? 1 : 0);
            }
        });
        Check.test("17: MEAN, not LEAST", () -> {
            LastKeg x = Boats.still(12, 3, 0, 3, 0);
            x.force(0);
            x.boat(0, 2);
            chances(x, 1, 5);
            Check.sheet(x, 0, 0, 50);
            x.rule(4, 0, 0);
            // Man 0 dies by any of them, man 1 lives by 1 on.
            Check.due("rations", x.rations(0), 1);
        });
    }

    /** Each needs 3; THE KEG has as much for one man alone, and man 0 DRINKS first. */
    private static LastKeg rivals() {
        LastKeg x = chances(dry(2, 3, 3), 0, 5);
        x.boat(1, 3);
        x.boat(2, 6);
        return x;
    }

    private static void take() {
        Supplier<LastKeg> made = VoyageBounds::eight;
        Range.answered("18: a RULE is refused", made, (x, v) -> x.take(v, 1), -5, LOW, -1, 8, HIGH);
        Range.answered("18: MEN are refused", made, (x, v) -> x.take(0, v), -7, LOW, LOW + 1, -256, -1, 0, 256, 257, HIGH);
        Range.answered("18: MEN would, 8 by four or fewer", made, (x, v) -> x.take(0, v), 1, 1, 2, 128, 3, 192, 7, 15, 240);
        Range.answered("18: MEN would not, 8 by five or more", made, (x, v) -> x.take(0, v), 0, 31, 248, 127, 254, 255);
        Range.answered("18: one man, MEN are refused", () -> dry(2, 3), (x, v) -> x.take(0, v), -7, 0, 2, 3, 128, -1);
        Range.answered("18: no MEN, all are refused", () -> dry(2), (x, v) -> x.take(0, v), -7, LOW, -1, 0, 1, 255, HIGH);
        Check.test("18: his HOME is greater", () -> Check.due("take", rivals().take(0, 2), 1));
        Check.test("18: his HOME is as it was", () -> Check.due("take", rivals().take(0, 1), 0));
        Check.test("18: both: as it was", () -> Check.due("take", rivals().take(0, 3), 0));
        Check.test("18: of both one's HOME alone is greater", () -> {
            LastKeg x = chances(dry(2, 1, 1, 1), 0, 5);
            x.boat(1, 6);
            x.boat(2, 6);
            // By 2 each all die, by 3 two live; with 1 more in his STORE man 0 lives anyhow.
            Check.due("0 and 1 would", x.take(0, 3), 1);
            x.set(0, 0, 2);
            Check.due("0 and 1 would not", x.take(0, 3), 0);
            Check.due("1 and 2 would", x.take(0, 6), 1);
        });
        Check.test("18: the RULE is kept: who is told 0 gets 0", () -> {
            LastKeg x = rivals();
            Check.sheet(x, 0, 3, 0);
            x.rule(4, 0, 0);
            Check.due("take", x.take(1, 2), 0);
        });
        Check.test("18: the RULE is kept: KIND 3 counts those who take", () -> {
            LastKeg x = chances(dry(2, 9, 1, 2), 0, 5);
            x.boat(1, 99);
            x.boat(2, 6);
            x.rule(3, 0, 0);
            // By 3, 1 less: man 1, the first of the two, gets 4, man 2 gets 2.
            Check.due("take", x.take(1, 6), 1);
            Check.due("by KIND 0 man 2 lives anyhow", x.take(0, 6), 0);
            x.set(2, 0, 1);
            Check.due("2 is too little for man 2", x.take(1, 6), 0);
        });
        Check.test("18: the RULE is kept: KIND 3 by how many take, not by how many live", () -> {
            LastKeg x = chances(Boats.law(dry(2, 50, 3, 50), "need 8;row 0;"), 0, 5);
            x.boat(1, 99);
            x.boat(2, 6);
            x.rule(3, 2, 0);
            // 6 less 1 is 5, by which he dies; 2 modulo 1 is 0, so he gets all 6.
            Check.due("take", x.take(1, 2), 1);
            x.set(1, 0, 2);
            Check.due("by 1 less in his STORE he dies", x.take(1, 2), 0);
        });
        Check.test("18: HOME 1 is not made greater", () -> {
            LastKeg x = rivals();
            x.set(1, 0, 9);
            x.boat(3, 0);
            Check.due("take", x.take(0, 2), 0);
        });
    }

    /** All live and row by a text, they LAND on day 0 or never. */
    private static LastKeg allRow(String e, int miles, int... rows) {
        LastKeg x = Boats.still(99);
        for (int row : rows) {
            x.man(50, row);
        }
        x.boat(0, 1);
        x.boat(3, miles);
        x.rule(0, 0, 0);
        return Boats.law(x, "need 0;row " + e + ";");
    }

    private static void takes() {
        Range.answered("19: a RULE is refused", VoyageBounds::eight, (x, v) -> x.takes(v), -5, LOW, -1, 8, HIGH);
        Check.test("19: no MEN", () -> Check.due("takes", dry(2).takes(0), -1));
        Check.test("19: one man alone", () -> Check.due("takes", dry(2, 3).takes(0), -1));
        Check.test("19: HOME as it was is not greater", () -> Check.due("takes", rivals().takes(0), 2));
        int[] due = {1, 3, 7, -1};
        for (int n = 1; n <= 4; n++) {
            int many = n;
            Check.test("19: " + n + " of 5 would", () -> {
                LastKeg x = allRow("(alive=" + many + ")*9", 45, 1, 1, 1, 1, 1);
                Check.due("take", x.take(0, (1 << many) - 1), 1);
                Check.due("takes", x.takes(0), due[many - 1]);
            });
        }
        Check.test("19: all 5: as it is", () ->
            Check.due("takes", allRow("(alive=5)*9", 45, 1, 1, 1, 1, 1).takes(0), -1));
        Check.test("19: the eighth alone", () -> Check.due("takes",
            allRow("(alive=1)*(0<share)*(rows=5)", 1, 1, 1, 1, 1, 1, 1, 1, 5).takes(0), 128));
        Check.test("19: the third and the seventh", () -> Check.due("takes",
            allRow("(alive=2)*(0<share)*rows", 18, 1, 1, 9, 1, 1, 1, 9, 1).takes(0), 68));
        Check.test("19: the second, the fifth and the eighth", () -> Check.due("takes",
            allRow("(alive=3)*(0<share)*rows", 27, 1, 9, 1, 1, 9, 1, 1, 9).takes(0), 146));
        Check.test("19: the last three of 8", () -> Check.due("takes",
            allRow("(alive=3)*(0<share)*rows", 27, 1, 1, 1, 1, 1, 9, 9, 9).takes(0), 224));
        Check.test("19: of like pairs the least as bits", () -> Check.due("takes",
            allRow("(alive=2)*(0<share)*rows", 10, 1, 1, 2, 8, 9, 1, 1, 9).takes(0), 12));
        Check.test("19: one ahead of two, though two are less as bits", () -> Check.due("takes",
            allRow("(alive=1)*(0<share)*(rows=5)*18+(alive=2)*(0<share)*(rows=9)*9", 18, 9, 9, 0, 0, 0, 0, 0, 5).takes(0), 128));
        Check.test("19: two ahead of three, though three are less as bits", () -> Check.due("takes",
            allRow("(alive=2)*(0<share)*(rows=5)*9+(alive=3)*(0<share)*(rows=9)*6", 18, 9, 9, 9, 0, 0, 0, 5, 5).takes(0), 192));
    }

    private static void hid(LastKeg x, int v, long above, long below) {
        Check.due("hid " + v + ", above", x.hid(0, 0, v, 0), above);
        Check.due("hid " + v + ", below", x.hid(0, 0, v, 1), below);
    }

    private static void hid() {
        Supplier<LastKeg> made = VoyageBounds::eight;
        Range.answered("20: a RULE is refused", made, (x, v) -> x.hid(v, 0, 1, 0), LastKeg.NO, LOW, -1, 8, HIGH);
        Range.answered("20: a man is refused", made, (x, v) -> x.hid(0, v, 1, 0), LastKeg.NO, LOW, -1, 8, HIGH);
        Range.answered("20: so much is refused", made, (x, v) -> x.hid(0, 0, v, 0), LastKeg.NO, LOW, -1, 51, HIGH);
        Range.answered("20: a part is refused", made, (x, v) -> x.hid(0, 0, 1, v), LastKeg.NO, LOW, -1, 2, HIGH);
        Check.test("20: 0 is 0 by 1", () -> hid(chances(dry(2, 3), 1, 5), 0, 0, 1));
        Check.test("20: 1 for a day", () -> hid(chances(dry(2, 3), 0, 5), 1, 1, 2));
        Check.test("20: 50 is taken", () -> hid(chances(dry(2, 3), 0, 5), 50, 1, 2));
        Check.test("20: less his HOME", () -> hid(chances(dry(2, 3), 4, 5), 1, 3, 10));
        Check.test("20: RULE 7 and man 7", () -> {
            LastKeg x = eight();
            x.boat(2, 1);
            // By 1 he is dead on day 1, by 1 besides he is not.
            Check.due("above", x.hid(7, 7, 1, 0), 9);
            Check.due("below", x.hid(7, 7, 1, 1), 20);
        });
        Check.test("20: less than 0 is above the line", () -> {
            LastKeg x = chances(Boats.still(6, 5, 0, 99, 0), 0, 0, 5);
            Boats.law(x, "need 3+5*(day=1);row 0;");
            x.rule(2, 5, 0);
            // With 5 he has 4 on day 1, below MORE, and gets 5; with 6 he has 5, gets 2 and dies.
            hid(x, 1, -1, 2);
        });
    }

    private static void hidDays() {
        String one = "need 1;row 0;";
        int[][] cases = {{0, 0, 1}, {10, 0, 1}, {11, 1, 2}, {12, 1, 2}, {50, 1, 2}};
        for (int[] c : cases) {
            Check.test("HID: 1 a day, " + c[0] + " till day 11", () ->
                hid(chances(Boats.law(dry(12, 1), one), 0, 0, 0, 0, 0, 0, 0, 0, 0, 0, 0, 5), c[0], c[1], c[2]));
        }
        Check.test("HID: 1 on the first day, not on the second", () -> {
            LastKeg x = chances(Boats.law(dry(12, 1), one), 0, 0, 5);
            hid(x, 1, 0, 1);
            hid(x, 2, 1, 2);
        });
        Check.test("HID: it does not come twice on a day", () ->
            hid(chances(Boats.law(dry(2, 1), "need 2;row 0;"), 0, 5), 50, 0, 1));
        Check.test("HID: nothing for one who is dead", () ->
            hid(chances(Boats.law(dry(12, 1), "need 2;row 0;"), 0, 0, 5, 5), 50, 0, 1));
        Check.test("HID: STORE 99 and 1 less 1 is 99", () -> {
            // 98 are needed from day 1 to day 5.
            LastKeg x = Boats.law(dry(12, 99), "need 1+19*(0<day)-2*(day=5);row 0;");
            hid(chances(x, 0, 0, 0, 0, 0, 0, 5), 1, 1, 2);
        });
        Check.test("HID: STORE is no more than 99", () -> {
            LastKeg x = Boats.law(dry(12, 99), "need 19*(0<day)+4*(day=5);row 0;");
            // 19 on 4 days and 20 on day 5 are 96; 20 on day 6 leave nothing.
            hid(chances(x, 0, 0, 0, 0, 0, 0, 0, 5), 1, 0, 1);
        });
        Check.test("HID: he has it besides, it is not of THE RATION, THE KEG", () -> {
            LastKeg x = chances(Boats.still(6, 3, 0, 3, 0), 0, 0, 5);
            x.force(0);
            x.boat(1, 6);
            x.rule(0, 0, 0);
            // Each gets 3 on day 0 and has 3; on day 1 nobody gets anything.
            hid(x, 1, 1, 2);
        });
        Check.test("HID: it is not what a text calls share", () -> {
            LastKeg x = Boats.law(dry(1, 50), "need 0;row share;");
            x.boat(3, 1);
            hid(x, 50, 0, 1);
        });
    }

    private static void judge() {
        Supplier<LastKeg> made = () -> {
            LastKeg x = eight();
            Check.sheet(x, 1, 1, 1, 1, 1, 1, 1, 1, 1);
            return x;
        };
        Range.answered("21: a RULE is taken", made, (x, v) -> x.judge(v, 0, 1), -1, 0, 1, 6);
        Range.answered("21: a RULE is refused", made, (x, v) -> x.judge(v, 0, 1), -5, LOW, -1, 8, HIGH);
        Range.answered("21: a SHEET is refused", made, (x, v) -> x.judge(0, 0, v), -2, LOW, -1, 4, HIGH);
        Range.answered("21: a SHEET is missing", made, (x, v) -> x.judge(0, 0, v), -11, 2, 3);
        Range.answered("21: a day is refused, DAYS 2", made, (x, v) -> x.judge(0, v, 1), -5, LOW, -1, 2, 11, HIGH);
        Range.answered("21: a day is taken, DAYS 2", made, (x, v) -> x.judge(0, v, 1), -1, 0);
        Check.test("21: day 1, all are dead", () -> {
            LastKeg x = made.get();
            Check.due("judge", x.judge(0, 1, 1), 0);
            x.sheet(1, 2, 8);
            Check.due("all got 0", x.judge(0, 1, 1), -1);
        });
        Check.test("21: RULE 7, SHEET 0", () -> Check.due("judge", eight().judge(7, 0, 0), -1));
        for (int m = 0; m < 8; m++) {
            int man = m;
            Check.test("21: it is wrong of man " + m, () -> {
                LastKeg x = made.get();
                for (int other = man; other < 8; other++) {
                    x.cell(1, other, 0);
                }
                Check.due("judge", x.judge(0, 0, 1), man);
            });
        }
        Check.test("21: day 11 of 12, day 12 is none", () -> {
            LastKeg x = Boats.still(6, 9, 0);
            x.rule(0, 0, 0);
            Check.sheet(x, 3, 6);
            Check.due("day 11", x.judge(0, 11, 3), -1);
            Check.due("day 12", x.judge(0, 12, 3), -5);
            x.boat(0, 1);
            Check.due("day 0", x.judge(0, 0, 3), -1);
            Check.due("day 1", x.judge(0, 1, 3), -5);
        });
        Check.test("21: behind the landing all got 0", () -> {
            LastKeg x = Boats.still(6, 9, 0);
            x.rule(0, 0, 0);
            x.boat(3, 0);
            Check.sheet(x, 3, 6);
            Check.due("day 0", x.judge(0, 0, 3), -1);
            Check.due("day 1", x.judge(0, 1, 3), 0);
            x.cell(3, 0, 0);
            Check.due("day 1", x.judge(0, 1, 3), -1);
        });
    }

    private static void judgedSheets() {
        for (int men : new int[] {0, 1, 8}) {
            for (int size : new int[] {men - 1, men, men + 1, 40}) {
                if (size >= 0) {
                    Check.test("21: " + men + " MEN, a SHEET of " + size, () -> {
                        LastKeg x = Boats.still(0);
                        for (int m = 0; m < men; m++) {
                            x.man(9, 0);
                        }
                        x.rule(0, 0, 0);
                        x.sheet(2, 1, size);
                        Check.due("judge", x.judge(0, 0, 2), size == men ? -1 : -2);
                    });
                }
            }
        }
        for (int sort = 0; sort < 3; sort++) {
            int of = sort;
            Check.test("21: a SHEET of sort " + sort, () -> {
                LastKeg x = Boats.still(99, 9, 0);
                x.rule(0, 0, 0);
                x.sheet(0, of, 1);
                x.cell(0, 0, 99);
                Check.due("right", x.judge(0, 0, 0), -1);
                x.cell(0, 0, 256 + 99);
                Check.due("by 256 more", x.judge(0, 0, 0), of == 0 ? -1 : 0);
                x.cell(0, 0, 65536 + 99);
                Check.due("by 65536 more", x.judge(0, 0, 0), of <= 1 ? -1 : 0);
                x.cell(0, 0, LOW + 99);
                Check.due("as low as an int goes", x.judge(0, 0, 0), of <= 1 ? -1 : 0);
                x.cell(0, 0, -99);
                Check.due("below 0", x.judge(0, 0, 0), 0);
            });
        }
    }

    private static void until(LastKeg x, int... due) {
        for (int m = 0; m < due.length; m++) {
            Check.due("until " + m, x.until(0, m), due[m]);
        }
    }

    private static void until() {
        Supplier<LastKeg> made = VoyageBounds::eight;
        Range.answered("22: a RULE is refused", made, (x, v) -> x.until(v, 0), -5, LOW, -1, 8, HIGH);
        Range.answered("22: a man is refused", made, (x, v) -> x.until(0, v), -5, LOW, -1, 8, HIGH);
        Range.answered("22: a man is taken", made, (x, v) -> x.until(0, v), 0, 0, 1, 6, 7);
        Check.test("22: RULE 7, man 7", () -> Check.due("until", eight().until(7, 7), 1));
        Check.test("22: day 0 at least, the last of DAYS at most", () -> until(dry(12, 1, 3, 4, 33, 34, 99), 0, 0, 1,
            10, 11, 11));
        Check.test("22: DAYS 1", () -> until(dry(1, 1, 99), 0, 0));
        Check.test("22: CHANCES are of no matter", () -> until(chances(dry(6, 99), 9, 0, 0, 0, 0, 0), 5));
        Check.test("22: the day at whose end they LAND", () -> until(landing(50, 50), 1, 1));
        Check.test("22: he who dies on that day, and ahead of it", () -> {
            until(landing(6, 50), 1, 1);
            until(landing(3, 50), 0, 1);
        });
        Check.test("22: 0 MILES", () -> {
            LastKeg x = landing(50, 50);
            x.boat(3, 0);
            until(x, 0, 0);
        });
    }

    /** Calls that ask leave all as it is. */
    private static void asking() {
        Ask[] asks = {
            (x, a) -> x.home(0, 1, 0), (x, a) -> x.mean(1, 0, 1), (x, a) -> x.mean(2, 1, 0), (x, a) -> x.told(2, 3, 1, 0),
            (x, a) -> x.ends(1, 2), (x, a) -> x.best(0), (x, a) -> x.best(1), (x, a) -> x.rations(0), (x, a) -> x.take(0, 5),
            (x, a) -> x.takes(1), (x, a) -> x.hid(0, 0, 50, 0), (x, a) -> x.judge(0, 0, 0), (x, a) -> x.until(2, 2),
            (x, a) -> x.boatTold(3), (x, a) -> x.ruleTold(0, 3), (x, a) -> x.taken(1, 6), (x, a) -> x.taken(9, 2)};
        String[] names = {"12: home", "13: MEAN", "13: LEAST", "14: told", "15: ends", "16: best by MEAN", "16: best by LEAST",
            "17: rations", "18: take", "19: takes", "20: hid", "21: judge", "22: until", "6: boatTold", "8: ruleTold",
            "29: taken a man", "29: taken a RULE"};
        for (State state : new State[] {State.SOME, State.FULL}) {
            for (int i = 0; i < asks.length; i++) {
                Ask ask = asks[i];
                Check.test(names[i] + " changes nothing of what is told, " + state, () -> {
                    LastKeg x = state.make();
                    Check.due("asked again", ask.of(x, null), ask.of(x, null));
                    Probe.alike(x, state.make());
                });
            }
        }
    }
}
