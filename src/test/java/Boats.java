/** Boats that several tests begin with. */
final class Boats {
    private Boats() {
    }

    /** So many MEN of STORE 99 who do not row. */
    static LastKeg men(int n) {
        LastKeg x = new LastKeg();
        for (int m = 0; m < n; m++) {
            x.man(99, 0);
        }
        return x;
    }

    /** Two numbers for each of the MEN: STORE, ROWS. Land is too far, nobody needs, THE KEG is full. */
    static LastKeg still(int ration, int... men) {
        LastKeg x = new LastKeg();
        for (int i = 0; i < men.length; i += 2) {
            x.man(men[i], men[i + 1]);
        }
        x.boat(0, 12);
        x.boat(1, 999);
        x.boat(2, ration);
        x.boat(3, 9999);
        return law(x, "need 0;row 0;");
    }

    /** The same boat, its LAW a right TEXT that comes. */
    static LastKeg law(LastKeg x, String text) {
        int t = Check.read(x, text);
        Check.due("the TEXT " + text, t, x.boatTold(6) - 1);
        x.force(t);
        return x;
    }
}
