/** MEN, STORE, ROWS, DAYS, THE KEG, THE RATION, MILES, CHANCE, RAIN: promises 1 to 6. */
final class BoatBounds {
    private BoatBounds() {
    }

    static void all() {
        newObject();
        atFirst();
        men();
        storesAndRows();
        boat();
        days();
        boatTold();
    }

    private static LastKeg oneMan() {
        LastKeg x = new LastKeg();
        x.man(50, 5);
        return x;
    }

    private static void newObject() {
        Check.test("1: a new object has no MEN", () -> {
            LastKeg x = new LastKeg();
            Check.due("boatTold 4", x.boatTold(4), 0);
            for (int m = 0; m < 8; m++) {
                Check.due("set " + m, x.set(m, 0, 1), -5);
                Check.due("taken " + m, x.taken(m, 6), -11);
            }
            Check.due("the first man", x.man(1, 0), 0);
        });
        Check.test("1: a new object has no RULES", () -> {
            LastKeg x = new LastKeg();
            Check.due("boatTold 5", x.boatTold(5), 0);
            Check.due("ruleTold", x.ruleTold(0, 0), -5);
            Check.due("taken", x.taken(8, 0), -11);
            Check.due("the first RULE", x.rule(0, 0, 0), 0);
        });
        Check.test("1: a new object has TEXT 0 alone", () -> {
            LastKeg x = new LastKeg();
            Check.due("boatTold 6", x.boatTold(6), 1);
            Check.due("boatTold 7", x.boatTold(7), 0);
            Check.due("force 1", x.force(1), -2);
            Check.due("force 0", x.force(0), 0);
        });
        Check.test("1: a new object has an empty TAPE", () -> {
            LastKeg x = new LastKeg();
            Check.due("boatTold 8", x.boatTold(8), 0);
            Check.due("text", x.text(), -100);
            Check.due("feed", x.feed(0, 1), 1);
        });
        Check.test("1: a new object has no SHEET", () -> {
            LastKeg x = new LastKeg();
            for (int s = 0; s < 4; s++) {
                Check.due("cell " + s, x.cell(s, 0, 0), -11);
                Check.due("copy " + s, x.copy(s, 0, s, 0, 0), -11);
            }
        });
        Check.test("1: a new object has no IMAGE", () -> Check.due("back", new LastKeg().back(), -3));
        Check.test("1: what another object is told does not matter", () -> {
            LastKeg other = State.FULL.make();
            LastKeg x = new LastKeg();
            other.force(4);
            Probe.alike(x, new LastKeg());
        });
    }

    private static void atFirst() {
        String[] names = {"DAYS are 6", "THE KEG is 60", "THE RATION is 12", "MILES are 100"};
        int[] first = {6, 60, 12, 100};
        for (int what = 0; what < 4; what++) {
            int place = what;
            Check.test("1: at first " + names[what], () -> {
                Check.due("boatTold", new LastKeg().boatTold(place), first[place]);
                Check.due("boat", new LastKeg().boat(place, 1), first[place]);
            });
        }
        Check.test("1: at first CHANCES are 0 on each of 12 days", () -> {
            LastKeg x = new LastKeg();
            for (int d = 0; d < 12; d++) {
                Check.due("day " + d, x.day(d, 0, 1), 0);
            }
        });
        Check.test("1: at first RAIN is 0 on each of 12 days", () -> {
            LastKeg x = new LastKeg();
            for (int d = 0; d < 12; d++) {
                Check.due("day " + d, x.day(d, 1, 1), 0);
            }
        });
        Check.test("1: the constants", () -> {
            Check.due("NONE", LastKeg.NONE, -1);
            Check.due("BAD", LastKeg.BAD, -2);
            Check.due("STATE", LastKeg.STATE, -3);
            Check.due("FULL", LastKeg.FULL, -4);
            Check.due("NO", LastKeg.NO, -4611686018427387904L);
        });
    }

    private static void men() {
        Check.test("2: MEN are numbered 0 to 7", () -> {
            LastKeg x = new LastKeg();
            for (int m = 0; m < 8; m++) {
                Check.due("man " + m, x.man(m + 1, m), m);
                Check.due("MEN", x.boatTold(4), m + 1);
            }
            for (int m = 0; m < 8; m++) {
                Check.due("STORE of " + m, x.taken(m, 6), m + 1);
                Check.due("ROWS of " + m, x.set(m, 1, 0), m);
            }
        });
        Check.test("2: the ninth man is FULL, the 8 stay", () -> {
            LastKeg x = new LastKeg();
            for (int m = 0; m < 8; m++) {
                x.man(m + 1, m);
            }
            Check.due("the ninth", x.man(99, 9), -4);
            Check.due("the tenth", x.man(99, 9), -4);
            Check.due("MEN", x.boatTold(4), 8);
            Check.due("STORE of 7", x.taken(7, 6), 8);
            Check.due("no man 8", x.set(8, 0, 1), -5);
        });
        Check.test("2: a refused man takes no number", () -> {
            LastKeg x = new LastKeg();
            Check.due("BAD", x.man(0, 0), -2);
            Check.due("BAD", x.man(1, 10), -2);
            Check.due("MEN", x.boatTold(4), 0);
            Check.due("the first", x.man(1, 0), 0);
        });
        Check.test("2: two like MEN are two", () -> {
            LastKeg x = new LastKeg();
            Check.due("one", x.man(5, 5), 0);
            Check.due("another", x.man(5, 5), 1);
        });
    }

    private static void storesAndRows() {
        int low = Integer.MIN_VALUE;
        int high = Integer.MAX_VALUE;
        Range.answered("2: a STORE is taken", LastKeg::new, (x, v) -> x.man(v, 0), 0, 1, 2, 98, 99);
        Range.answered("2: a STORE is refused", LastKeg::new, (x, v) -> x.man(v, 0), -2, low, -1, 0, 100, high);
        Range.answered("2: ROWS are taken", LastKeg::new, (x, v) -> x.man(1, v), 0, 0, 1, 8, 9);
        Range.answered("2: ROWS are refused", LastKeg::new, (x, v) -> x.man(1, v), -2, low, -1, 10, high);
        Range.exchanged("3: STORE", 1, 99, -7, BoatBounds::oneMan, (x, v) -> x.set(0, 0, v), 50);
        Range.exchanged("3: ROWS", 0, 9, -7, BoatBounds::oneMan, (x, v) -> x.set(0, 1, v), 5);
        Range.answered("3: no such man", BoatBounds::oneMan, (x, v) -> x.set(v, 0, 5), -5, low, -1, 1, 7, 8, high);
        Range.answered("3: what", BoatBounds::oneMan, (x, v) -> x.set(0, v, 5), -7, low, -1, 2, high);
        Check.test("3: the first and the eighth man, neither beside him", () -> {
            LastKeg x = State.FULL.make();
            Check.due("STORE of 7", x.set(7, 0, 1), 97);
            Check.due("ROWS of 7", x.set(7, 1, 9), 7);
            Check.due("STORE of 0", x.set(0, 0, 2), 90);
            Check.due("STORE of 6", x.taken(6, 6), 96);
            Check.due("STORE of 1", x.taken(1, 6), 91);
            Check.due("STORE of 7", x.taken(7, 6), 1);
            Check.due("ROWS of 6", x.set(6, 1, 0), 6);
            Check.due("ROWS of 7", x.set(7, 1, 0), 9);
        });
        Check.test("3: STORE 0 is refused, ROWS 0 are taken", () -> {
            LastKeg x = oneMan();
            Check.due("STORE", x.set(0, 0, 0), -7);
            Check.due("ROWS", x.set(0, 1, 0), 5);
        });
        Check.test("3: ROWS 10 are refused, STORE 10 is taken", () -> {
            LastKeg x = oneMan();
            Check.due("ROWS", x.set(0, 1, 10), -7);
            Check.due("STORE", x.set(0, 0, 10), 50);
        });
    }

    private static void boat() {
        Range.exchanged("4: DAYS", 1, 12, -2, LastKeg::new, (x, v) -> x.boat(0, v), 5);
        Range.exchanged("4: THE KEG", 0, 999, -2, LastKeg::new, (x, v) -> x.boat(1, v), 5);
        Range.exchanged("4: THE RATION", 0, 99, -2, LastKeg::new, (x, v) -> x.boat(2, v), 5);
        Range.exchanged("4: MILES", 0, 9999, -2, LastKeg::new, (x, v) -> x.boat(3, v), 5);
        Range.answered("4: what", LastKeg::new, (x, v) -> x.boat(v, 5), -2, Integer.MIN_VALUE, -1, 4, Integer.MAX_VALUE);
        Check.test("4: each becomes what it is told, and no other", () -> {
            int[] least = {1, 0, 0, 0};
            int[] first = {6, 60, 12, 100};
            for (int what = 0; what < 4; what++) {
                LastKeg x = new LastKeg();
                x.boat(what, least[what]);
                for (int other = 0; other < 4; other++) {
                    Check.due("boatTold " + other, x.boatTold(other), other == what ? least[what] : first[other]);
                }
            }
        });
    }

    private static void days() {
        for (int d : new int[] {0, 11}) {
            Range.exchanged("5: CHANCE of day " + d, 0, 9, -7, LastKeg::new, (x, v) -> x.day(d, 0, v), 5);
            Range.exchanged("5: RAIN of day " + d, 0, 50, -7, LastKeg::new, (x, v) -> x.day(d, 1, v), 5);
        }
        int low = Integer.MIN_VALUE;
        int high = Integer.MAX_VALUE;
        Range.answered("5: a day is refused", LastKeg::new, (x, v) -> x.day(v, 0, 5), -5, low, -1, 12, 13, high);
        Range.answered("5: what is refused", LastKeg::new, (x, v) -> x.day(0, v, 5), -7, low, -1, 2, high);
        Check.test("5: days behind DAYS are told, too", () -> {
            LastKeg x = new LastKeg();
            x.boat(0, 1);
            Check.due("CHANCE", x.day(11, 0, 4), 0);
            Check.due("RAIN", x.day(1, 1, 4), 0);
            Check.due("CHANCE was", x.day(11, 0, 0), 4);
            Check.due("RAIN was", x.day(1, 1, 0), 4);
        });
        Check.test("5: each day for itself, CHANCE and RAIN apart", () -> {
            LastKeg x = new LastKeg();
            x.day(5, 0, 3);
            x.day(6, 1, 30);
            for (int d = 0; d < 12; d++) {
                Check.due("CHANCE " + d, x.day(d, 0, 0), d == 5 ? 3 : 0);
                Check.due("RAIN " + d, x.day(d, 1, 0), d == 6 ? 30 : 0);
            }
        });
        Check.test("5: CHANCE 10 is refused, RAIN 10 is taken", () -> {
            LastKeg x = new LastKeg();
            Check.due("CHANCE", x.day(3, 0, 10), -7);
            Check.due("RAIN", x.day(3, 1, 10), 0);
        });
    }

    private static void boatTold() {
        int low = Integer.MIN_VALUE;
        int high = Integer.MAX_VALUE;
        Range.answered("6: what is refused", LastKeg::new, (x, v) -> x.boatTold(v), -2, low, -1, 9, high);
        Check.test("6: all at the least", () -> {
            LastKeg x = new LastKeg();
            x.boat(0, 1);
            x.boat(1, 0);
            x.boat(2, 0);
            x.boat(3, 0);
            told(x, 1, 0, 0, 0, 0, 0, 1, 0, 0);
        });
        Check.test("6: all at the most", () -> told(State.FULL.make(), 12, 999, 99, 9999, 8, 8, 6, 5, 160));
        Check.test("6: something of each", () -> told(State.SOME.make(), 8, 500, 60, 5000, 3, 3, 2, 1, 11));
    }

    private static void told(LastKeg x, int... due) {
        for (int what = 0; what < due.length; what++) {
            Check.due("boatTold " + what, x.boatTold(what), due[what]);
        }
    }
}
