/** Promises 1 to 6. */
public final class MenAndBoatTest {
    private MenAndBoatTest() {
    }

    public static void main(String[] args) {
        newObject();
        man();
        set();
        boat();
        day();
        boatTold();
        Check.finish();
    }

    private static void newObject() {
        LastKeg x = new LastKeg();
        int[] told = {6, 60, 12, 100, 0, 0, 1, 0, 0};
        for (int what = 0; what < told.length; what++) {
            Check.due("1: boatTold(" + what + ")", x.boatTold(what), told[what]);
        }
        for (int d = 0; d < 12; d++) {
            Check.due("1: day(d, 0, 0)", x.day(d, 0, 0), 0);
            Check.due("1: day(d, 1, 0)", x.day(d, 1, 0), 0);
        }
        for (int s = 0; s < 4; s++) {
            Check.due("1: sheets are missing", x.cell(s, 0, 0), -11);
        }
        Check.due("1: no image", x.back(), LastKeg.STATE);
        Check.due("1: no rule", x.ruleTold(0, 0), -5);
        Check.due("1: no text 1", x.force(1), LastKeg.BAD);
        Check.due("1: NONE", LastKeg.NONE, -1);
        Check.due("1: NO", LastKeg.NO, -(1L << 62));
    }

    private static void man() {
        LastKeg x = new LastKeg();
        Check.due("2: man(1, 0)", x.man(1, 0), 0);
        Check.due("2: man(99, 9)", x.man(99, 9), 1);
        Check.due("2: man(0, 0)", x.man(0, 0), -2);
        Check.due("2: man(100, 0)", x.man(100, 0), -2);
        Check.due("2: man(1, -1)", x.man(1, -1), -2);
        Check.due("2: man(1, 10)", x.man(1, 10), -2);
        Check.due("2: man(MIN, MAX)", x.man(Integer.MIN_VALUE, Integer.MAX_VALUE), -2);
        Check.due("2: none came by it", x.boatTold(4), 2);
        for (int m = 2; m < 8; m++) {
            Check.due("2: man(10 + m, m)", x.man(10 + m, m), m);
        }
        Check.due("2: the ninth", x.man(5, 5), LastKeg.FULL);
        Check.due("2: BAD ahead of FULL", x.man(0, 5), LastKeg.BAD);
        Check.due("2: 8 men", x.boatTold(4), 8);
        Check.due("2: store of 0", x.taken(0, 6), 1);
        Check.due("2: store of 1", x.taken(1, 6), 99);
        Check.due("2: store of 7", x.taken(7, 6), 17);
        Check.due("2: rows of 7", x.set(7, 1, 0), 7);
    }

    private static void set() {
        LastKeg x = new LastKeg();
        Check.due("3: set(0, 0, 1)", x.set(0, 0, 1), -5);
        x.man(30, 4);
        Check.due("3: set(0, 0, 1)", x.set(0, 0, 1), 30);
        Check.due("3: set(0, 0, 99)", x.set(0, 0, 99), 1);
        Check.due("3: set(0, 1, 0)", x.set(0, 1, 0), 4);
        Check.due("3: set(0, 1, 9)", x.set(0, 1, 9), 0);
        Check.due("3: set(0, 0, 0)", x.set(0, 0, 0), -7);
        Check.due("3: set(0, 0, 100)", x.set(0, 0, 100), -7);
        Check.due("3: set(0, 1, -1)", x.set(0, 1, -1), -7);
        Check.due("3: set(0, 1, 10)", x.set(0, 1, 10), -7);
        Check.due("3: set(0, 2, 1)", x.set(0, 2, 1), -7);
        Check.due("3: set(0, -1, 1)", x.set(0, -1, 1), -7);
        Check.due("3: set(1, 0, 1)", x.set(1, 0, 1), -5);
        Check.due("3: set(-1, 0, 1)", x.set(-1, 0, 1), -5);
        Check.due("3: -5 ahead of -7", x.set(8, 7, 777), -5);
        Check.due("3: nothing changed", x.set(0, 0, 50), 99);
        Check.due("3: nothing changed", x.set(0, 1, 5), 9);
    }

    private static void boat() {
        int[] first = {6, 60, 12, 100};
        int[] least = {1, 0, 0, 0};
        int[] most = {12, 999, 99, 9999};
        LastKeg x = new LastKeg();
        for (int what = 0; what < 4; what++) {
            Check.due("4: least of " + what, x.boat(what, least[what]), first[what]);
            Check.due("4: most of " + what, x.boat(what, most[what]), least[what]);
            Check.due("4: below " + what, x.boat(what, least[what] - 1), -2);
            Check.due("4: above " + what, x.boat(what, most[what] + 1), -2);
            Check.due("4: told " + what, x.boatTold(what), most[what]);
        }
        Check.due("4: boat(4, 1)", x.boat(4, 1), -2);
        Check.due("4: boat(-1, 1)", x.boat(-1, 1), -2);
        Check.due("4: boat(MAX, 1)", x.boat(Integer.MAX_VALUE, 1), -2);
    }

    private static void day() {
        LastKeg x = new LastKeg();
        for (int d = 0; d < 12; d++) {
            Check.due("5: chance", x.day(d, 0, d % 10), 0);
            Check.due("5: rain", x.day(d, 1, 50 - d), 0);
        }
        for (int d = 0; d < 12; d++) {
            Check.due("5: chance was", x.day(d, 0, 9), d % 10);
            Check.due("5: rain was", x.day(d, 1, 50), 50 - d);
        }
        Check.due("5: day(0, 0, 10)", x.day(0, 0, 10), -7);
        Check.due("5: day(0, 0, -1)", x.day(0, 0, -1), -7);
        Check.due("5: day(0, 1, 51)", x.day(0, 1, 51), -7);
        Check.due("5: day(0, 1, -1)", x.day(0, 1, -1), -7);
        Check.due("5: day(0, 2, 0)", x.day(0, 2, 0), -7);
        Check.due("5: day(0, -1, 0)", x.day(0, -1, 0), -7);
        Check.due("5: day(12, 0, 0)", x.day(12, 0, 0), -5);
        Check.due("5: day(-1, 0, 0)", x.day(-1, 0, 0), -5);
        Check.due("5: -5 ahead of -7", x.day(12, 5, 99), -5);
        Check.due("5: nothing changed", x.day(0, 0, 1), 9);
        x.boat(0, 1);
        Check.due("5: a day behind DAYS", x.day(11, 0, 3), 9);
    }

    private static void boatTold() {
        LastKeg x = new LastKeg();
        x.boat(0, 3);
        x.boat(1, 7);
        x.boat(2, 8);
        x.boat(3, 9);
        x.man(1, 1);
        x.man(1, 1);
        x.rule(0, 0, 0);
        x.rule(1, 0, 0);
        x.rule(2, 0, 0);
        Check.read(x, "need 1;row 1;");
        Check.read(x, "need 2;row 2;");
        Check.read(x, "need 3;row 3;");
        x.force(2);
        x.feed(0, 5);
        int[] told = {3, 7, 8, 9, 2, 3, 4, 2, 5};
        for (int what = 0; what < told.length; what++) {
            Check.due("6: boatTold(" + what + ")", x.boatTold(what), told[what]);
        }
        Check.due("6: boatTold(-1)", x.boatTold(-1), -2);
        Check.due("6: boatTold(9)", x.boatTold(9), -2);
        Check.due("6: boatTold(MIN)", x.boatTold(Integer.MIN_VALUE), -2);
    }
}
