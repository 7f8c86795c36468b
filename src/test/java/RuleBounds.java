import java.util.function.Supplier;

/** RULES, MORE, each KIND and its SHARE: promises 7 and 8. */
final class RuleBounds {
    private static final int LOW = Integer.MIN_VALUE, HIGH = Integer.MAX_VALUE;

    private RuleBounds() {
    }

    static void all() {
        numbers();
        kinds();
        sheets();
        sheetRefusals();
        told();
        kindRule();
        kindRow();
        kindNeed();
        kindLot();
        lotOfWho();
        kindTold();
        kindLast();
    }

    /** What each gets on a day by the RULE that came last. */
    private static void gets(LastKeg x, int d, int... due) {
        int r = x.boatTold(5) - 1;
        for (int m = 0; m < due.length; m++) {
            Check.due("on day " + d + " man " + m + " gets", x.told(r, d, m, 1), due[m]);
        }
    }

    private static LastKeg eightRules() {
        LastKeg x = new LastKeg();
        for (int r = 0; r < 8; r++) {
            x.rule(r % 4, 10 + r, 0);
        }
        return x;
    }

    private static void numbers() {
        Check.test("7: RULES are numbered 0 to 7", () -> {
            LastKeg x = new LastKeg();
            for (int r = 0; r < 8; r++) {
                Check.due("rule " + r, x.rule(r % 4, 10 + r, 0), r);
                Check.due("RULES", x.boatTold(5), r + 1);
            }
            for (int r = 0; r < 8; r++) {
                Check.due("KIND of " + r, x.ruleTold(r, 0), r % 4);
                Check.due("MORE of " + r, x.ruleTold(r, 1), 10 + r);
            }
        });
        Check.test("7: the ninth RULE is FULL, the 8 stay", () -> {
            LastKeg x = eightRules();
            Check.due("the ninth", x.rule(5, 99, 0), -4);
            Check.due("the tenth", x.rule(5, 99, 0), -4);
            Check.due("RULES", x.boatTold(5), 8);
            Check.due("MORE of 7", x.ruleTold(7, 1), 17);
            Check.due("no RULE 8", x.ruleTold(8, 1), -5);
        });
        Check.test("7: a refused RULE takes no number", () -> {
            LastKeg x = new LastKeg();
            Check.due("BAD", x.rule(6, 0, 0), -2);
            Check.due("BAD", x.rule(0, 100, 0), -2);
            Check.due("-11", x.rule(4, 0, 0), -11);
            Check.due("RULES", x.boatTold(5), 0);
            Check.due("the first", x.rule(0, 0, 0), 0);
        });
    }

    private static void kinds() {
        Range.answered("7: a KIND is taken", LastKeg::new, (x, v) -> x.rule(v, 0, 0), 0, 0, 1, 2, 3, 5);
        Range.answered("7: a KIND is refused", LastKeg::new, (x, v) -> x.rule(v, 0, 0), -2, LOW, -1, 6, HIGH);
        for (int kind : new int[] {0, 1, 2, 3, 5}) {
            String of = " of KIND " + kind;
            Range.answered("7: MORE is taken" + of, LastKeg::new, (x, v) -> x.rule(kind, v, 0), 0, 0, 1, 98, 99);
            Range.answered("7: MORE is refused" + of, LastKeg::new, (x, v) -> x.rule(kind, v, 0), -2, LOW, -1, 100, HIGH);
            Range.answered("7: the SHEET does not matter" + of, LastKeg::new, (x, v) -> x.rule(kind, 0, v), 0,
                LOW, -1, 0, 3, 4, HIGH);
        }
        Supplier<LastKeg> made = State.SOME::make;
        Range.answered("7: MORE is taken of KIND 4", made, (x, v) -> x.rule(4, v, 0), 3, 0, 99);
        Range.answered("7: MORE is refused of KIND 4", made, (x, v) -> x.rule(4, v, 0), -2, LOW, -1, 100, HIGH);
        Range.answered("7: a SHEET is taken", made, (x, v) -> x.rule(4, 0, v), 3, 0, 1);
        Range.answered("7: a SHEET is refused", made, (x, v) -> x.rule(4, 0, v), -2, LOW, -1, 4, HIGH);
        Check.test("7: SHEET 3 is taken", () -> {
            LastKeg x = new LastKeg();
            x.man(9, 0);
            Check.sheet(x, 3, 44);
            Check.due("rule", x.rule(4, 0, 3), 0);
            Check.due("told", x.ruleTold(0, 2), 44);
        });
    }

    private static LastKeg twoMenTold(int sort, int first, int second) {
        LastKeg x = Boats.men(2);
        x.sheet(0, sort, 2);
        x.cell(0, 0, first);
        x.cell(0, 1, second);
        return x;
    }

    private static void sheets() {
        for (int men : new int[] {0, 1, 3, 8}) {
            for (int size : new int[] {men - 1, men, men + 1, 40}) {
                if (size >= 0) {
                    Check.test("7: " + men + " MEN, a SHEET of " + size, () -> {
                        LastKeg x = Boats.men(men);
                        x.sheet(2, 2, size);
                        Check.due("rule", x.rule(4, 0, 2), size == men ? 0 : -2);
                        Check.due("RULES", x.boatTold(5), size == men ? 1 : 0);
                    });
                }
            }
        }
        Check.test("7: no MEN, a missing SHEET", () -> Check.due("rule", new LastKeg().rule(4, 0, 2), -11));
        Check.test("7: a SHEET that is missing again", () -> {
            LastKeg x = twoMenTold(2, 1, 1);
            x.sheet(0, -1, 2);
            Check.due("rule", x.rule(4, 0, 0), -11);
        });
        for (int sort = 0; sort < 3; sort++) {
            int of = sort;
            Range.answered("7: a first number is taken, sort " + sort, LastKeg::new,
                (x, v) -> twoMenTold(of, v, 9).rule(4, 0, 0), 0, 0, 1, 49, 50);
            Range.answered("7: a last number is taken, sort " + sort, LastKeg::new,
                (x, v) -> twoMenTold(of, 9, v).rule(4, 0, 0), 0, 0, 1, 49, 50);
            Range.answered("7: a first number is refused, sort " + sort, LastKeg::new,
                (x, v) -> twoMenTold(of, v, 9).rule(4, 0, 0), -2, -1, 51, 127);
            Range.answered("7: a last number is refused, sort " + sort, LastKeg::new,
                (x, v) -> twoMenTold(of, 9, v).rule(4, 0, 0), -2, -1, 51, 127);
        }
        Range.answered("7: a number is refused, as far as an int goes", LastKeg::new,
            (x, v) -> twoMenTold(2, v, v).rule(4, 0, 0), -2, LOW, LOW + 50, 256, 65536, HIGH);
    }

    private static void sheetRefusals() {
        Check.test("7: BAD number ahead of FULL", () -> {
            LastKeg x = State.FULL.make();
            LastKeg y = State.FULL.make();
            x.cell(3, 7, 51);
            y.cell(3, 7, 51);
            Check.due("rule", x.rule(4, 0, 3), -2);
            x.cell(3, 7, -1);
            y.cell(3, 7, -1);
            Check.due("rule", x.rule(4, 0, 3), -2);
            Probe.alike(x, y);
        });
        Check.test("7: -11 ahead of FULL", () -> {
            LastKeg x = State.FULL.make();
            LastKeg y = State.FULL.make();
            x.sheet(3, -1, 0);
            y.sheet(3, -1, 0);
            Check.due("rule", x.rule(4, 0, 3), -11);
            Probe.alike(x, y);
        });
        Check.test("7: BAD number, and nothing has changed", () -> {
            LastKeg x = State.SOME.make();
            LastKeg y = State.SOME.make();
            x.cell(1, 2, 51);
            y.cell(1, 2, 51);
            Check.due("rule", x.rule(4, 0, 1), -2);
            Probe.alike(x, y);
        });
        Check.test("7: BAD size and BAD number at once", () -> {
            LastKeg x = Boats.men(1);
            Check.sheet(x, 0, 51, 1);
            Check.due("rule", x.rule(4, 0, 0), -2);
        });
    }

    private static void told() {
        LastKeg some = State.SOME.make();
        int[] due = {4, 7, 5, 7, 9, 0, 0, 0, 0, 0};
        Check.test("8: what 0 to 9 of KIND 4, 0 for who is not there", () -> {
            for (int what = 0; what < 10; what++) {
                Check.due("ruleTold " + what, some.ruleTold(0, what), due[what]);
            }
        });
        Check.test("8: what 9 is told for man 7", () -> {
            LastKeg x = State.FULL.make();
            for (int what = 2; what < 10; what++) {
                Check.due("ruleTold " + what, x.ruleTold(0, what), what - 1);
            }
        });
        for (int kind : new int[] {0, 1, 2, 3, 5}) {
            Check.test("8: nothing is told by KIND " + kind, () -> {
                LastKeg x = State.SOME.make();
                Check.due("rule", x.rule(kind, 99, 0), 3);
                Check.due("KIND", x.ruleTold(3, 0), kind);
                Check.due("MORE", x.ruleTold(3, 1), 99);
                for (int what = 2; what < 10; what++) {
                    Check.due("ruleTold " + what, x.ruleTold(3, what), 0);
                }
            });
        }
        Range.answered("8: what is refused", State.FULL::make, (x, v) -> x.ruleTold(7, v), -7, LOW, -1, 10, HIGH);
        Range.answered("8: a RULE is refused", State.FULL::make, (x, v) -> x.ruleTold(v, 0), -5, LOW, -1, 8, HIGH);
        Check.test("8: what the SHEET becomes later does not matter", () -> {
            LastKeg x = State.SOME.make();
            x.cell(0, 0, 33);
            Check.due("told", x.ruleTold(0, 2), 5);
            x.sheet(0, -1, 0);
            Check.due("told", x.ruleTold(0, 2), 5);
        });
        Check.test("8: two RULES by one SHEET stay apart", () -> {
            LastKeg x = State.SOME.make();
            x.cell(0, 0, 33);
            Check.due("rule", x.rule(4, 0, 0), 3);
            Check.due("the first", x.ruleTold(0, 2), 5);
            Check.due("the second", x.ruleTold(3, 2), 33);
        });
    }

    private static LastKeg byRule(int kind, int more, LastKeg x) {
        x.rule(kind, more, 0);
        return x;
    }

    private static void kindRule() {
        Check.test("KIND 0: 12 by 3 is 4", () -> gets(byRule(0, 0, Boats.still(12, 50, 0, 50, 9, 50, 1)), 0, 4, 4, 4));
        Check.test("KIND 0: 11 by 3 is cut", () -> gets(byRule(0, 0, Boats.still(11, 50, 0, 50, 9, 50, 1)), 0, 3, 3, 3));
        Check.test("KIND 0: 3 by 3 is 1", () -> gets(byRule(0, 0, Boats.still(3, 50, 0, 50, 9, 50, 1)), 0, 1, 1, 1));
        Check.test("KIND 0: 2 by 3 is 0", () -> gets(byRule(0, 0, Boats.still(2, 50, 0, 50, 9, 50, 1)), 0, 0, 0, 0));
        Check.test("KIND 0: 0 by 1 is 0", () -> gets(byRule(0, 0, Boats.still(0, 50, 0)), 0, 0));
        Check.test("KIND 0: 99 by 1 is 99", () -> gets(byRule(0, 0, Boats.still(99, 50, 0)), 0, 99));
        Check.test("KIND 0: 99 by 8 is 12", () -> gets(
            byRule(0, 0, Boats.still(99, 1, 0, 1, 0, 1, 0, 1, 0, 1, 0, 1, 0, 1, 0, 1, 9)), 0, 12, 12, 12, 12, 12, 12, 12, 12));
        Check.test("KIND 0: MORE does not matter", () -> gets(byRule(0, 99, Boats.still(12, 50, 0, 50, 9)), 0, 6, 6));
        Check.test("KIND 0: by those who live alone", () -> {
            LastKeg x = byRule(0, 0, Boats.still(3, 3, 9, 50, 0));
            x.force(0);
            // Man 0 needs 12 and dies on day 0.
            gets(x, 0, 1, 1);
            gets(x, 1, 0, 3);
        });
    }

    private static void kindRow() {
        Check.test("KIND 1: ROWS 1 is above 0, ROWS 0 is not", () ->
            gets(byRule(1, 0, Boats.still(9, 50, 0, 50, 0, 50, 1)), 0, 2, 2, 4));
        Check.test("KIND 1: ROWS 9 is 1 more, too", () -> gets(byRule(1, 0, Boats.still(9, 50, 0, 50, 9, 50, 0)), 0, 2, 4, 2));
        Check.test("KIND 1: 1 less than 1 is 0", () -> gets(byRule(1, 0, Boats.still(3, 50, 0, 50, 0, 50, 1)), 0, 0, 0, 2));
        Check.test("KIND 1: 1 less than 0 is 0", () -> {
            LastKeg x = byRule(1, 0, Boats.still(2, 50, 0, 50, 0, 50, 1));
            gets(x, 0, 0, 0, 1);
            Check.due("THE KEG then", x.told(0, 1, 0, 2), 998);
        });
        Check.test("KIND 1: RATION 0, nobody gets 1 more", () -> gets(byRule(1, 0, Boats.still(0, 50, 9, 50, 0)), 0, 0, 0));
        Check.test("KIND 1: the last gets what is left of THE RATION", () ->
            gets(byRule(1, 0, Boats.still(9, 50, 1, 50, 1, 50, 1)), 0, 4, 4, 1));
        Check.test("KIND 1: MORE does not matter", () -> gets(byRule(1, 99, Boats.still(4, 50, 0, 50, 9)), 0, 1, 3));
    }

    private static void kindNeed() {
        Check.test("KIND 2: STORE 39 is below MORE 40, 40 and 41 are not", () ->
            gets(byRule(2, 40, Boats.still(30, 39, 0, 40, 0, 41, 9)), 0, 12, 9, 9));
        Check.test("KIND 2: no STORE is below MORE 0", () -> gets(byRule(2, 0, Boats.still(8, 1, 0, 2, 0)), 0, 3, 3));
        Check.test("KIND 2: STORE 1 is not below MORE 1", () -> gets(byRule(2, 1, Boats.still(8, 1, 0, 2, 0)), 0, 3, 3));
        Check.test("KIND 2: STORE 1 is below MORE 2", () -> gets(byRule(2, 2, Boats.still(8, 2, 0, 1, 0)), 0, 3, 5));
        Check.test("KIND 2: STORE 98 is below MORE 99, 99 is not", () ->
            gets(byRule(2, 99, Boats.still(8, 99, 0, 98, 0)), 0, 3, 5));
        Check.test("KIND 2: 1 less than 1 is 0", () -> gets(byRule(2, 9, Boats.still(3, 9, 0, 9, 0, 8, 0)), 0, 0, 0, 3));
        Check.test("KIND 2: 1 less than 0 is 0", () -> {
            LastKeg x = byRule(2, 9, Boats.still(2, 9, 0, 9, 0, 8, 0));
            gets(x, 0, 0, 0, 2);
            Check.due("THE KEG then", x.told(0, 1, 0, 2), 997);
        });
        Check.test("KIND 2: his STORE as the day begins", () -> {
            LastKeg x = byRule(2, 40, Boats.still(10, 40, 0, 99, 0));
            Check.read(x, "need 5;row 0;");
            x.force(2);
            // By 5 and 1 less, 4, he has 39 on day 1: 7, then 41: 4.
            gets(x, 0, 4, 4);
            gets(x, 1, 7, 3);
            gets(x, 2, 4, 4);
        });
    }

    private static LastKeg lot(int men, int more) {
        LastKeg x = Boats.men(men);
        x.boat(0, 12);
        x.boat(1, 999);
        x.boat(2, 3 * men);
        x.boat(3, 9999);
        Check.read(x, "need 0;row 0;");
        x.force(1);
        x.rule(3, more, 0);
        return x;
    }

    /** By 3 each, 1 less, the lot's man twice that. */
    private static int[] lotFalls(int men, int on) {
        int[] due = new int[men];
        for (int m = 0; m < men; m++) {
            due[m] = m == on ? 4 : 2;
        }
        return due;
    }

    private static void kindLot() {
        int[][] cases = {
            {3, 0, 0, 0}, {3, 1, 0, 1}, {3, 2, 0, 2}, {3, 3, 0, 0}, {3, 99, 0, 0}, {3, 98, 0, 2},
            {3, 0, 1, 1}, {3, 1, 1, 2}, {3, 2, 1, 0}, {3, 0, 11, 2}, {3, 99, 11, 2}, {3, 97, 11, 0},
            {8, 0, 0, 0}, {8, 7, 0, 7}, {8, 8, 0, 0}, {8, 0, 1, 7}, {8, 0, 11, 5}, {8, 99, 11, 0}, {8, 98, 11, 7},
            {2, 0, 0, 0}, {2, 99, 0, 1}, {2, 0, 11, 1}, {2, 99, 11, 0}};
        for (int[] c : cases) {
            Check.test("KIND 3: " + c[0] + " MEN, MORE " + c[1] + ", day " + c[2] + ": man " + c[3], () ->
                gets(lot(c[0], c[1]), c[2], lotFalls(c[0], c[3])));
        }
        for (int d : new int[] {0, 1, 11}) {
            Check.test("KIND 3: one man alone always, day " + d, () -> {
                LastKeg x = byRule(3, 0, Boats.still(9, 50, 0));
                x.boat(2, 2);
                gets(x, d, 2);
            });
        }
        Check.test("KIND 3: twice 0 is 0", () -> gets(byRule(3, 0, Boats.still(2, 50, 0, 50, 0)), 0, 0, 0));
        Check.test("KIND 3: twice is no more than THE RATION", () -> gets(byRule(3, 0, Boats.still(9, 50, 0)), 0, 9));
        Check.test("KIND 3: twice 2 more, STORE 9 below MORE 10", () ->
            gets(byRule(3, 10, Boats.still(30, 9, 0, 10, 0, 50, 0, 11, 9, 99, 0)), 0, 16, 5, 5, 4, 0));
        Check.test("KIND 3: twice 1 less, STORE 10 not below MORE 10", () ->
            gets(byRule(3, 10, Boats.still(30, 10, 0, 9, 0, 50, 0, 11, 9, 99, 0)), 0, 10, 8, 5, 5, 2));
    }

    private static void lotOfWho() {
        Check.test("KIND 3: the dead are not among those who DRINK", () -> {
            LastKeg x = byRule(3, 1, Boats.still(9, 1, 9, 99, 0, 99, 0));
            x.force(0);
            // Man 0 gets 2, needs 12; on day 1 (7 and 1) modulo 2 is 0: man 1, 4 less 1, twice.
            gets(x, 0, 2, 4, 2);
            gets(x, 1, 0, 6, 3);
        });
        Check.test("KIND 3: all alike if each dies on day 0", () -> {
            LastKeg x = byRule(3, 1, Boats.still(9, 1, 9, 1, 9));
            x.force(0);
            gets(x, 1, 0, 0);
        });
    }

    private static LastKeg toldBoat(int ration, int... told) {
        LastKeg x = Boats.still(ration);
        for (int m = 0; m < told.length; m++) {
            x.man(50, 5);
        }
        Check.sheet(x, 0, told);
        x.rule(4, 0, 0);
        return x;
    }

    private static void kindTold() {
        Check.test("KIND 4: 0 and 50 are told", () -> gets(toldBoat(99, 0, 50), 0, 0, 50));
        Check.test("KIND 4: THE RATION is left as it is told", () -> gets(toldBoat(99, 50, 50, 50), 0, 50, 49, 0));
        Check.test("KIND 4: RATION 0, nobody gets what is told", () -> gets(toldBoat(0, 50, 50), 0, 0, 0));
        Check.test("KIND 4: for each of 8 MEN", () ->
            gets(toldBoat(99, 1, 2, 3, 4, 5, 6, 7, 50), 0, 1, 2, 3, 4, 5, 6, 7, 50));
        Check.test("KIND 4: later MEN are told 0", () -> {
            LastKeg x = toldBoat(99, 50);
            x.man(50, 5);
            gets(x, 0, 50, 0);
            gets(x, 11, 50, 0);
        });
        Check.test("KIND 4: told without MEN, all later ones get 0", () -> {
            LastKeg x = Boats.still(99);
            x.sheet(0, 0, 0);
            x.rule(4, 0, 0);
            for (int m = 0; m < 8; m++) {
                x.man(50, 5);
            }
            gets(x, 0, 0, 0, 0, 0, 0, 0, 0, 0);
        });
    }

    private static void kindLast() {
        // Base 5: man 0 gets 6, man 1 gets 4; half of that is 3 and 2.
        Check.test("KIND 5: MORE 2, day 1 is whole", () -> gets(byRule(5, 2, Boats.still(10, 50, 1, 50, 0)), 1, 6, 4));
        Check.test("KIND 5: MORE 2, day 2 is half", () -> gets(byRule(5, 2, Boats.still(10, 50, 1, 50, 0)), 2, 3, 2));
        Check.test("KIND 5: MORE 2, day 3 is half", () -> gets(byRule(5, 2, Boats.still(10, 50, 1, 50, 0)), 3, 3, 2));
        Check.test("KIND 5: MORE 0, day 0 is half", () -> gets(byRule(5, 0, Boats.still(10, 50, 1, 50, 0)), 0, 3, 2));
        Check.test("KIND 5: MORE 1, day 0 is whole", () -> gets(byRule(5, 1, Boats.still(10, 50, 1, 50, 0)), 0, 6, 4));
        Check.test("KIND 5: MORE 11, day 10 is whole", () -> gets(byRule(5, 11, Boats.still(10, 50, 1, 50, 0)), 10, 6, 4));
        Check.test("KIND 5: MORE 11, day 11 is half", () -> gets(byRule(5, 11, Boats.still(10, 50, 1, 50, 0)), 11, 3, 2));
        Check.test("KIND 5: MORE 12, day 11 is whole", () -> gets(byRule(5, 12, Boats.still(10, 50, 1, 50, 0)), 11, 6, 4));
        Check.test("KIND 5: MORE 99, day 11 is whole", () -> gets(byRule(5, 99, Boats.still(10, 50, 1, 50, 0)), 11, 6, 4));
        Check.test("KIND 5: half of 7 and 5 is cut", () -> gets(byRule(5, 0, Boats.still(12, 50, 1, 50, 0)), 0, 3, 2));
        Check.test("KIND 5: half of 1 is 0", () -> gets(byRule(5, 0, Boats.still(1, 50, 1, 50, 0)), 0, 0, 0));
        Check.test("KIND 5: 1 less than 0 is 0", () -> gets(byRule(5, 99, Boats.still(1, 50, 0, 50, 0)), 0, 0, 0));
    }
}
