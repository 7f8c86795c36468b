/** A DAY by a RULE: RAIN, drinking, rowing, STORES, LAND. */
final class DayBounds {
    private DayBounds() {
    }

    static void all() {
        rain();
        drinking();
        storesAbove();
        storesBelow();
        rowing();
        firstText();
        landing();
        behindTheLanding();
        nobodyLives();
    }

    /** One man who rows as told, by the first text: he needs 3 and ROWS. */
    private static LastKeg one(int store, int rows, int keg, int ration) {
        LastKeg x = new LastKeg();
        x.man(store, rows);
        x.boat(1, keg);
        x.boat(2, ration);
        x.boat(3, 9999);
        x.rule(0, 0, 0);
        return x;
    }

    private static void rain() {
        Check.test("DAY: RAIN comes to THE KEG ahead of the drinking", () -> {
            LastKeg x = one(50, 0, 0, 12);
            x.day(0, 1, 5);
            Check.due("he gets", x.told(0, 0, 0, 1), 5);
            Check.due("KEG as day 0 begins", x.told(0, 0, 0, 2), 0);
            Check.due("KEG as day 1 begins", x.told(0, 1, 0, 2), 0);
            Check.due("he gets on day 1", x.told(0, 1, 0, 1), 0);
        });
        Check.test("DAY: RAIN 50 on each of 12 days, THE KEG goes above 999", () -> {
            LastKeg x = Boats.law(one(50, 0, 999, 0), "need 0;row 0;");
            x.boat(0, 12);
            for (int d = 0; d < 12; d++) {
                x.day(d, 1, 50);
            }
            for (int d = 0; d <= 12; d++) {
                Check.due("KEG as day " + d + " begins", x.told(0, d, 0, 2), 999 + 50 * d);
            }
            Check.due("THE KEG as told", x.boatTold(1), 999);
        });
        Check.test("DAY: RAIN of each day for itself", () -> {
            LastKeg x = Boats.law(one(50, 0, 0, 0), "need 0;row 0;");
            x.boat(0, 12);
            for (int d = 0; d < 12; d++) {
                x.day(d, 1, d);
            }
            Check.due("KEG as day 1 begins", x.told(0, 1, 0, 2), 0);
            Check.due("KEG as day 2 begins", x.told(0, 2, 0, 2), 1);
            Check.due("KEG as day 12 begins", x.told(0, 12, 0, 2), 66);
        });
        Check.test("DAY: RAIN on a day behind DAYS does not come", () -> {
            LastKeg x = one(50, 0, 0, 12);
            x.day(6, 1, 50);
            Check.due("KEG behind all", x.told(0, 6, 0, 2), 0);
        });
    }

    private static LastKeg two(int keg, int ration) {
        LastKeg x = one(50, 0, keg, ration);
        x.man(50, 0);
        return x;
    }

    private static void gets(LastKeg x, int keg, int... due) {
        for (int m = 0; m < due.length; m++) {
            Check.due("man " + m + " gets", x.told(0, 0, m, 1), due[m]);
        }
        Check.due("KEG as day 1 begins", x.told(0, 1, 0, 2), keg);
    }

    private static void drinking() {
        Check.test("DAY: THE KEG is just enough", () -> gets(two(12, 12), 0, 6, 6));
        Check.test("DAY: THE KEG is more than enough by 1", () -> gets(two(13, 12), 1, 6, 6));
        Check.test("DAY: THE KEG lacks 1, the last gets less", () -> gets(two(11, 12), 0, 6, 5));
        Check.test("DAY: THE KEG is enough for the first alone", () -> gets(two(6, 12), 0, 6, 0));
        Check.test("DAY: THE KEG lacks for the first", () -> gets(two(5, 12), 0, 5, 0));
        Check.test("DAY: THE KEG is 1", () -> gets(two(1, 12), 0, 1, 0));
        Check.test("DAY: THE KEG is empty", () -> gets(two(0, 12), 0, 0, 0));
        Check.test("DAY: THE KEG of 999", () -> gets(two(999, 99), 901, 49, 49));
        Check.test("DAY: THE RATION is 0", () -> gets(two(60, 0), 60, 0, 0));
        Check.test("DAY: what is cut from THE RATION stays in THE KEG", () -> gets(two(60, 13), 48, 6, 6));
        Check.test("DAY: less is left of THE RATION than of THE KEG", () -> {
            LastKeg x = two(60, 9);
            Check.sheet(x, 0, 5, 5);
            x.rule(4, 0, 0);
            Check.due("man 0", x.told(1, 0, 0, 1), 5);
            Check.due("man 1", x.told(1, 0, 1, 1), 4);
        });
        Check.test("DAY: THE RATION is new on each day", () -> {
            LastKeg x = two(60, 9);
            Check.sheet(x, 0, 9, 9);
            x.rule(4, 0, 0);
            for (int d = 0; d < 6; d++) {
                Check.due("man 0 on day " + d, x.told(1, d, 0, 1), 9);
                Check.due("man 1 on day " + d, x.told(1, d, 1, 1), 0);
            }
        });
    }

    private static void storesAbove() {
        int[][] cases = {{99, 99}, {91, 99}, {90, 99}, {89, 98}};
        for (int[] c : cases) {
            // He gets 12 and needs 3.
            Check.test("STORE: " + c[0] + " and 9 is " + c[1], () ->
                Check.due("STORE", one(c[0], 0, 60, 12).told(0, 1, 0, 0), c[1]));
        }
        Check.test("STORE: the bound is 99 after both, not between", () ->
            Check.due("STORE", one(99, 0, 60, 2).told(0, 1, 0, 0), 98));
        Check.test("STORE: 99 and 99 more is 99", () ->
            Check.due("STORE", Boats.law(one(99, 0, 999, 99), "need 0;row 0;").told(0, 1, 0, 0), 99));
    }

    private static void storesBelow() {
        int[][] cases = {{5, 2}, {4, 1}, {3, 0}, {2, 0}, {1, 0}};
        for (int[] c : cases) {
            Check.test("STORE: " + c[0] + " less 3 is " + c[1], () -> {
                LastKeg x = one(c[0], 0, 0, 12);
                Check.due("STORE", x.told(0, 1, 0, 0), c[1]);
                x.boat(0, 1);
                Check.due("how many live", x.ends(0, 1), c[1] > 0 ? 1 : 0);
                Check.due("the first death", x.ends(0, 2), c[1] > 0 ? -1 : 0);
            });
        }
        Check.test("STORE: 1 less 20 is 0", () ->
            Check.due("STORE", Boats.law(one(1, 0, 0, 0), "need 20;row 0;").told(0, 1, 0, 0), 0));
        Check.test("STORE: what he gets comes ahead of what he needs", () ->
            Check.due("STORE", one(1, 0, 60, 3).told(0, 1, 0, 0), 1));
        Check.test("STORE: one with 1 DRINKS and rows", () -> {
            LastKeg x = one(1, 2, 60, 5);
            Check.due("gets on day 1", x.told(0, 1, 0, 1), 5);
            Check.due("MILES as day 2 begins", x.told(0, 2, 0, 3), 16);
        });
        Check.test("STORE: one with 0 is dead and stays it", () -> {
            LastKeg x = two(60, 12);
            x.set(1, 0, 3);
            x.boat(2, 0);
            for (int d = 1; d <= 6; d++) {
                Check.due("STORE as day " + d + " begins", x.told(0, d, 1, 0), 0);
            }
            x.boat(2, 1);
            Check.due("the other alone gets THE RATION", x.told(0, 1, 0, 1), 1);
            Check.due("the dead gets nothing", x.told(0, 1, 1, 1), 0);
        });
    }

    private static LastKeg eightRowers() {
        LastKeg x = new LastKeg();
        for (int m = 0; m < 8; m++) {
            x.man(99, 0);
        }
        x.boat(0, 12);
        x.rule(0, 0, 0);
        return Boats.law(x, "need 0;row 99;");
    }

    private static void rowing() {
        Check.test("MILES: 8 MEN by 99 on 12 days are 9504", () -> {
            LastKeg x = eightRowers();
            x.boat(3, 9999);
            for (int d = 0; d <= 12; d++) {
                Check.due("MILES as day " + d + " begins", x.told(0, d, 0, 3), 792 * d);
            }
            Check.due("no LAND", x.ends(0, 0), -1);
        });
        Check.test("MILES: 9504 to land, they LAND on day 11", () -> {
            LastKeg x = eightRowers();
            x.boat(3, 9504);
            Check.due("LAND", x.ends(0, 0), 11);
        });
        Check.test("MILES: 9505 to land, they don't LAND", () -> {
            LastKeg x = eightRowers();
            x.boat(3, 9505);
            Check.due("no LAND", x.ends(0, 0), -1);
        });
        Check.test("MILES: who dies on a day has rowed on it, not on the next", () -> {
            LastKeg x = two(0, 0);
            x.set(0, 0, 1);
            x.set(0, 1, 9);
            Check.due("as day 0 begins", x.told(0, 0, 0, 3), 0);
            Check.due("as day 1 begins", x.told(0, 1, 0, 3), 36);
            Check.due("as day 2 begins", x.told(0, 2, 0, 3), 36);
        });
        Check.test("MILES: row is asked with what he got", () -> {
            LastKeg x = Boats.law(one(50, 0, 7, 12), "need 0;row share;");
            Check.due("as day 1 begins", x.told(0, 1, 0, 3), 7);
            Check.due("as day 2 begins", x.told(0, 2, 0, 3), 7);
        });
    }

    private static void firstText() {
        Check.test("TEXT 0: ROWS 0 needs 3 and rows 0", () -> firstText(0, 47, 0));
        Check.test("TEXT 0: ROWS 1 needs 4 and rows 4", () -> firstText(1, 46, 4));
        Check.test("TEXT 0: ROWS 9 needs 12 and rows 36", () -> firstText(9, 38, 36));
    }

    private static void firstText(int rows, int store, int miles) {
        LastKeg x = one(50, rows, 0, 0);
        Check.due("STORE", x.told(0, 1, 0, 0), store);
        Check.due("MILES", x.told(0, 1, 0, 3), miles);
    }

    /** 9 ROWS are 36 MILES a day; day 2 ends with 108. */
    private static LastKeg rower(int miles) {
        LastKeg x = one(99, 9, 0, 0);
        x.boat(3, miles);
        return x;
    }

    private static void landing() {
        int[][] cases = {{0, 0}, {1, 0}, {36, 0}, {37, 1}, {107, 2}, {108, 2}, {109, 3}, {216, 5}, {217, -1}, {9999, -1}};
        for (int[] c : cases) {
            Check.test("LAND: " + c[0] + " MILES, day " + c[1], () ->
                Check.due("ends", rower(c[0]).ends(0, 0), c[1]));
        }
        Check.test("LAND: 0 MILES, nobody rows: at the end of day 0", () -> {
            LastKeg x = one(50, 0, 60, 12);
            x.boat(3, 0);
            Check.due("ends", x.ends(0, 0), 0);
        });
        Check.test("LAND: 1 mile, nobody rows: never", () -> {
            LastKeg x = one(50, 0, 60, 12);
            x.boat(3, 1);
            Check.due("ends", x.ends(0, 0), -1);
        });
        Check.test("LAND: DAYS 1, at the end of day 0", () -> {
            LastKeg x = rower(36);
            x.boat(0, 1);
            Check.due("ends", x.ends(0, 0), 0);
            x.boat(3, 37);
            Check.due("ends", x.ends(0, 0), -1);
        });
        Check.test("LAND: DAYS 12, at the end of day 11", () -> {
            LastKeg x = Boats.law(rower(120), "need 0;row 10;");
            x.boat(0, 12);
            Check.due("ends", x.ends(0, 0), 11);
            x.boat(0, 11);
            Check.due("ends", x.ends(0, 0), -1);
        });
        Check.test("LAND: nobody lives at the end of that day: they don't", () -> {
            LastKeg x = rower(36);
            x.set(0, 0, 12);
            Check.due("ends", x.ends(0, 0), -1);
            Check.due("MILES are rowed", x.told(0, 1, 0, 3), 36);
            x.set(0, 0, 13);
            Check.due("by 1 more they do", x.ends(0, 0), 0);
        });
        Check.test("LAND: 0 MILES, nobody lives at the end of day 0", () -> {
            LastKeg x = one(3, 0, 0, 0);
            x.boat(3, 0);
            Check.due("ends", x.ends(0, 0), -1);
            Check.due("one died", x.ends(0, 2), 0);
        });
        Check.test("LAND: one man who lives is enough", () -> {
            LastKeg x = rower(36);
            x.set(0, 0, 12);
            x.man(4, 0);
            Check.due("ends", x.ends(0, 0), 0);
            Check.due("lives", x.ends(0, 1), 1);
        });
        Check.test("LAND: no MEN, 0 MILES: never", () -> {
            LastKeg x = new LastKeg();
            x.rule(0, 0, 0);
            x.boat(3, 0);
            Check.due("ends", x.ends(0, 0), -1);
        });
    }

    private static void behindTheLanding() {
        Check.test("LAND: nothing happens on later days", () -> {
            LastKeg x = one(50, 9, 60, 12);
            x.boat(3, 72);
            for (int d = 0; d < 12; d++) {
                x.day(d, 1, 20);
            }
            x.boat(0, 12);
            // Each day 12 got and 12 needed; 8 more in THE KEG.
            Check.due("they LAND", x.ends(0, 0), 1);
            Check.due("gets on day 1", x.told(0, 1, 0, 1), 12);
            for (int d = 2; d <= 12; d++) {
                Check.due("STORE " + d, x.told(0, d, 0, 0), 50);
                Check.due("KEG " + d, x.told(0, d, 0, 2), 76);
                Check.due("MILES " + d, x.told(0, d, 0, 3), 72);
                Check.due("gets " + d, x.told(0, d, 0, 1), d == 12 ? -7 : 0);
            }
        });
        Check.test("LAND: who is dead ahead of it stays dead, the others live", () -> {
            LastKeg x = rower(72);
            x.man(1, 0);
            Check.due("lives in the end", x.ends(0, 1), 1);
            Check.due("the first death", x.ends(0, 2), 0);
        });
    }

    private static void nobodyLives() {
        Check.test("DAY: on one on which nobody lives no RAIN comes", () -> {
            LastKeg x = one(1, 9, 0, 0);
            for (int d = 0; d < 6; d++) {
                x.day(d, 1, 50);
            }
            Check.due("KEG as day 1 begins", x.told(0, 1, 0, 2), 50);
            Check.due("KEG as day 2 begins", x.told(0, 2, 0, 2), 50);
            Check.due("KEG behind all", x.told(0, 6, 0, 2), 50);
            Check.due("MILES behind all", x.told(0, 6, 0, 3), 36);
            Check.due("gets on day 5", x.told(0, 5, 0, 1), 0);
        });
        Check.test("DAY: one lives yet, RAIN comes", () -> {
            LastKeg x = one(1, 9, 0, 0);
            x.man(99, 0);
            x.day(1, 1, 50);
            Check.due("KEG as day 2 begins", x.told(0, 2, 0, 2), 50);
        });
    }
}
