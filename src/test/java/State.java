/** Objects that the tests begin with: new, with something of each kind, and full. */
enum State {
    EMPTY, SOME, FULL;

    LastKeg make() {
        switch (this) {
            case EMPTY:
                return new LastKeg();
            case SOME:
                return some();
            default:
                return full();
        }
    }

    /** 3 MEN, 3 RULES, 2 TEXTS, 11 bytes, an IMAGE that is not as it is now, SHEET 3 missing. */
    private static LastKeg some() {
        LastKeg x = new LastKeg();
        x.man(50, 3);
        x.man(40, 0);
        x.man(30, 9);
        days(x);
        sheet(x, 0, 0, 5, 7, 9);
        sheet(x, 1, 1, 5, 7, 9);
        repeated(x, 2, 2, 5, 7, 9);
        x.rule(4, 7, 0);
        x.rule(2, 45, 0);
        x.rule(5, 3, 0);
        Check.read(x, "need 4;row 9+day;");
        x.image();
        x.boat(0, 8);
        x.boat(1, 500);
        x.boat(2, 60);
        x.boat(3, 5000);
        x.set(0, 0, 51);
        x.set(1, 0, 41);
        x.set(2, 0, 31);
        x.day(4, 0, 9);
        x.day(5, 1, 44);
        x.force(1);
        Check.feed(x, "need 2;row ");
        return x;
    }

    /** 8 MEN, 8 RULES, 6 TEXTS, 160 bytes, SHEETS 0 .. 2 of 40, SHEET 3 with a number for each man. */
    private static LastKeg full() {
        LastKeg x = new LastKeg();
        for (int m = 0; m < 8; m++) {
            x.man(60 + m, m);
        }
        days(x);
        for (int sort = 0; sort < 3; sort++) {
            repeated(x, sort, sort, 1, 2, 3, 4, 5, 6, 7, 8);
        }
        sheet(x, 3, 2, 1, 2, 3, 4, 5, 6, 7, 8);
        x.rule(4, 20, 3);
        for (int r = 1; r < 8; r++) {
            x.rule(r % 4, 10 * r, 0);
        }
        for (int t = 1; t < 6; t++) {
            Check.read(x, "need " + t + ";row " + t + ";");
        }
        x.force(3);
        x.image();
        x.boat(0, 12);
        x.boat(1, 999);
        x.boat(2, 99);
        x.boat(3, 9999);
        for (int m = 0; m < 8; m++) {
            x.set(m, 0, 90 + m);
        }
        x.day(0, 0, 8);
        x.day(11, 1, 50);
        x.force(5);
        for (int i = 0; i < 20; i++) {
            x.feed(i, 8);
        }
        return x;
    }

    private static void days(LastKeg x) {
        for (int d = 0; d < 12; d++) {
            x.day(d, 0, d % 10);
            x.day(d, 1, d + 1);
        }
    }

    private static void sheet(LastKeg x, int s, int sort, int... numbers) {
        x.sheet(s, sort, numbers.length);
        for (int i = 0; i < numbers.length; i++) {
            x.cell(s, i, numbers[i]);
        }
    }

    /** A SHEET of 40 on which these numbers stand again and again. */
    private static void repeated(LastKeg x, int s, int sort, int... numbers) {
        x.sheet(s, sort, 40);
        for (int i = 0; i < numbers.length; i++) {
            x.cell(s, i, numbers[i]);
        }
        for (int stand = numbers.length; stand < 40; stand *= 2) {
            x.copy(s, 0, s, stand, Math.min(stand, 40 - stand));
        }
    }
}
