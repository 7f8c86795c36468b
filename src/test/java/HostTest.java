/** Promises 23 to 29. */
public final class HostTest {
    private HostTest() {
    }

    public static void main(String[] args) {
        image();
        sheet();
        cell();
        copy();
        men();
        taken();
        Check.finish();
    }

    private static void image() {
        LastKeg x = new LastKeg();
        Check.due("24: none", x.back(), -3);
        x.man(10, 1);
        x.man(20, 2);
        x.day(3, 0, 4);
        x.day(11, 1, 5);
        Check.read(x, "need 1;row 1;");
        Check.due("23: image", x.image(), 2);
        x.man(30, 3);
        x.set(0, 0, 11);
        x.set(1, 0, 21);
        x.set(2, 0, 31);
        x.set(1, 1, 9);
        for (int what = 0; what < 4; what++) {
            x.boat(what, 1 + what);
        }
        x.day(3, 0, 1);
        x.day(4, 0, 1);
        x.day(11, 1, 1);
        x.day(0, 1, 50);
        x.force(1);
        x.rule(2, 7, 0);
        Check.sheet(x, 0, 1, 2);
        x.feed(65, 1);
        Check.due("24: back", x.back(), 3);
        int[] told = {6, 60, 12, 100, 3, 1, 2, 0, 1};
        for (int what = 0; what < told.length; what++) {
            Check.due("24: boatTold(" + what + ")", x.boatTold(what), told[what]);
        }
        Check.due("24: STORE 0", x.taken(0, 6), 10);
        Check.due("24: STORE 1", x.taken(1, 6), 20);
        Check.due("24: of a man that came since", x.taken(2, 6), 31);
        Check.due("24: rows are not kept", x.set(1, 1, 2), 9);
        Check.due("24: rules are not kept", x.ruleTold(0, 1), 7);
        Check.due("24: CHANCE 3", x.day(3, 0, 0), 4);
        Check.due("24: CHANCE 4", x.day(4, 0, 0), 0);
        Check.due("24: RAIN 11", x.day(11, 1, 0), 5);
        Check.due("24: RAIN 0", x.day(0, 1, 0), 0);
        Check.due("24: sheets are not kept", x.copy(0, 0, 0, 0, 2), 2);
        Check.due("24: again", x.back(), 3);
        Check.due("24: CHANCE 3 again", x.day(3, 0, 0), 4);
        x.set(2, 0, 77);
        x.force(1);
        Check.due("23: a second one", x.image(), 3);
        x.set(2, 0, 78);
        x.force(0);
        x.back();
        Check.due("24: STORE 2 by the second one", x.taken(2, 6), 77);
        Check.due("24: CHANCE 3 by the second one", x.day(3, 0, 0), 0);
        Check.due("24: THE LAW by the second one", x.boatTold(7), 1);
    }

    private static void sheet() {
        LastKeg x = new LastKeg();
        Check.due("25: sheet(4, 0, 1)", x.sheet(4, 0, 1), -2);
        Check.due("25: sheet(-1, 0, 1)", x.sheet(-1, 0, 1), -2);
        Check.due("25: sheet(0, 3, 1)", x.sheet(0, 3, 1), -2);
        Check.due("25: sheet(0, -2, 1)", x.sheet(0, -2, 1), -2);
        Check.due("25: sheet(0, 0, 41)", x.sheet(0, 0, 41), -2);
        Check.due("25: sheet(0, 0, -1)", x.sheet(0, 0, -1), -14);
        Check.due("25: BAD ahead of -14", x.sheet(0, 3, -1), -2);
        Check.due("25: sheet(0, 2, MIN)", x.sheet(0, 2, Integer.MIN_VALUE), -14);
        Check.due("25: still missing", x.cell(0, 0, 1), -11);
        Check.due("25: sheet(0, 2, 40)", x.sheet(0, 2, 40), 1);
        Check.due("25: number 39", x.cell(0, 39, 1), 1);
        Check.due("25: number 40", x.cell(0, 40, 1), -12);
        Check.due("25: sheet(0, -1, 41)", x.sheet(0, -1, 41), 1);
        Check.due("25: missing", x.cell(0, 0, 1), -11);
        Check.due("25: sheet(0, -1, -7)", x.sheet(0, -1, -7), 1);
        Check.due("25: sheet(3, 1, 0)", x.sheet(3, 1, 0), 1);
        Check.due("25: there, but empty", x.cell(3, 0, 1), -12);
        x.man(9, 0);
        x.rule(0, 0, 0);
        Check.sheet(x, 0, 9);
        Check.due("25: as told", x.judge(0, 0, 0), 0);
        x.sheet(0, 2, 1);
        x.boat(2, 0);
        Check.due("25: all 0 again", x.judge(0, 0, 0), -1);
        x.cell(0, 0, 5);
        x.sheet(0, 2, 0);
        x.sheet(0, 2, 1);
        Check.due("25: all 0 again", x.judge(0, 0, 0), -1);
    }

    private static void cell() {
        LastKeg x = new LastKeg();
        x.sheet(0, 0, 2);
        x.sheet(1, 1, 2);
        x.sheet(2, 2, 2);
        Check.due("26: cell(0, 0, 300)", x.cell(0, 0, 256 + 44), 1);
        x.cell(0, 1, 512 + 3);
        x.cell(1, 0, 65536 + 256 * 0 + 55);
        x.cell(1, 1, -65536 + 4);
        x.cell(2, 0, 66);
        x.cell(2, 1, 5);
        Check.due("26: bytes", x.men(0, 0, 0, 1), 1);
        Check.due("26: shorts", x.men(1, 1, 0, 1), 1);
        Check.due("26: ints", x.men(2, 2, 0, 1), 1);
        Check.due("26: lowest 8 bits", x.taken(0, 6), 44);
        Check.due("26: lowest 16 bits", x.taken(1, 6), 55);
        Check.due("26: all bits", x.taken(2, 6), 66);
        x.cell(1, 0, 256 + 5);
        Check.due("26: shorts have more than 8", x.men(1, 1, 0, 1), 0);
        x.cell(2, 0, 65536 + 5);
        Check.due("26: ints have more than 16", x.men(2, 2, 0, 1), 0);
        Check.due("26: SHEET 4", x.cell(4, 0, 0), -2);
        Check.due("26: SHEET -1", x.cell(-1, 0, 0), -2);
        Check.due("26: missing", x.cell(3, 99, 0), -11);
        Check.due("26: place 2", x.cell(0, 2, 0), -12);
        Check.due("26: place -1", x.cell(0, -1, 0), -12);
    }

    /** Whether the numbers of a sheet of as many as men are these (ration 0: all get 0). */
    private static void holds(LastKeg x, int s, int... want) {
        for (int i = 0; i < want.length; i++) {
            x.sheet(3, 2, 2);
            x.copy(s, i, 3, 0, 1);
            x.cell(3, 1, 0);
            int before = x.boatTold(4);
            int came = x.men(3, 2, 0, 1);
            Check.due("27: number " + i + " is a STORE", came, want[i] > 0 ? 1 : 0);
            if (came == 1) {
                Check.due("27: number " + i, x.taken(before, 6), want[i]);
            }
        }
    }

    private static void copy() {
        LastKeg x = new LastKeg();
        Check.sheet(x, 0, 1, 2, 3, 4, 5);
        Check.due("27: onto itself, upward", x.copy(0, 0, 0, 1, 4), 4);
        holds(x, 0, 1, 1, 2, 3, 4);
        x = new LastKeg();
        Check.sheet(x, 0, 1, 2, 3, 4, 5);
        Check.due("27: onto itself, downward", x.copy(0, 2, 0, 0, 3), 3);
        holds(x, 0, 3, 4, 5, 4, 5);
        x = new LastKeg();
        Check.sheet(x, 0, 1, 2, 3);
        x.sheet(1, 2, 4);
        Check.due("27: to another", x.copy(0, 1, 1, 2, 2), 2);
        holds(x, 1, 0, 0, 2, 3);
        holds(x, 0, 1, 2, 3);
        Check.due("27: none of them", x.copy(0, 3, 1, 4, 0), 0);
        Check.due("27: none, from outside", x.copy(0, 4, 1, 0, 0), -12);
        Check.due("27: n -1", x.copy(0, 0, 1, 0, -1), -12);
        Check.due("27: i -1", x.copy(0, -1, 1, 0, 1), -12);
        Check.due("27: j -1", x.copy(0, 0, 1, -1, 1), -12);
        Check.due("27: too many", x.copy(0, 1, 1, 0, 3), -12);
        Check.due("27: too many there", x.copy(0, 0, 1, 3, 2), -12);
        Check.due("27: i MAX", x.copy(0, Integer.MAX_VALUE, 1, 0, 1), -12);
        Check.due("27: n MAX", x.copy(0, 1, 1, 1, Integer.MAX_VALUE), -12);
        Check.due("27: j MAX", x.copy(0, 0, 1, Integer.MAX_VALUE, 2), -12);
        Check.due("27: SHEET 4", x.copy(4, 0, 0, 0, 1), -2);
        Check.due("27: SHEET -1", x.copy(0, 0, -1, 0, 1), -2);
        Check.due("27: missing from", x.copy(2, 0, 0, 0, 99), -11);
        Check.due("27: missing to", x.copy(0, 0, 2, 0, 99), -11);
        x.sheet(2, 1, 3);
        Check.due("27: unlike sorts", x.copy(0, 0, 2, 0, 99), -13);
        Check.due("27: BAD ahead of -11", x.copy(2, 0, 9, 0, 1), -2);
    }

    private static void men() {
        LastKeg x = new LastKeg();
        Check.sheet(x, 0, 9, 10, 1, 20, 9, 0, 3, 30, 2, 40);
        Check.due("28: from 1 on, one left out", x.men(0, 2, 3, 3), 2);
        Check.due("28: two came", x.boatTold(4), 2);
        Check.due("28: STORE of 0", x.taken(0, 6), 20);
        Check.due("28: rows of 0", x.set(0, 1, 0), 9);
        Check.due("28: STORE of 1", x.taken(1, 6), 30);
        Check.due("28: none", x.men(0, 2, 0, 0), 0);
        Check.due("28: none, from outside", x.men(0, 2, -1, 0), 0);
        Check.due("28: half a man", x.men(0, 2, 7, 2), -12);
        Check.due("28: what stood ahead came", x.boatTold(4), 3);
        Check.due("28: at -1", x.men(0, 2, -1, 1), -12);
        Check.due("28: at MAX", x.men(0, 2, Integer.MAX_VALUE, 8), -12);
        Check.due("28: at MIN", x.men(0, 2, Integer.MIN_VALUE, 8), -12);
        Check.due("28: n 9", x.men(0, 2, 0, 9), -2);
        Check.due("28: n -1", x.men(0, 2, 0, -1), -2);
        Check.due("28: sort 3", x.men(0, 3, 0, 1), -2);
        Check.due("28: sort -1", x.men(0, -1, 0, 1), -2);
        Check.due("28: SHEET 4", x.men(4, 2, 0, 1), -2);
        Check.due("28: missing", x.men(1, 2, 0, 1), -11);
        Check.due("28: of another sort", x.men(0, 1, 99, 1), -13);
        Check.due("28: three still", x.boatTold(4), 3);
        x.sheet(1, 0, 16);
        for (int i = 0; i < 16; i += 2) {
            x.cell(1, i, 50 + i);
        }
        Check.due("28: till it is full", x.men(1, 0, 0, 8), 5);
        Check.due("28: eight men", x.boatTold(4), 8);
        Check.due("28: full, then outside", x.men(1, 0, 14, 2), -12);
        Check.due("28: full", x.men(1, 0, 0, 8), 0);
    }

    private static void taken() {
        LastKeg x = new LastKeg();
        x.man(10, 0);
        x.man(33, 0);
        Check.sheet(x, 0, 1, 1);
        int[][] is = {{0}, {0, 1}, {0, 2}, {0, 2, 3}, {0, 4}, {0, 1, 5}};
        for (int kind = 0; kind < 6; kind++) {
            x.rule(kind, 0, 0);
        }
        for (int r = 0; r < 6; r++) {
            for (int kind = 0; kind <= 6; kind++) {
                boolean one = false;
                for (int k : is[r]) {
                    one |= k == kind;
                }
                Check.due("29: taken(" + (8 + r) + ", " + kind + ")", x.taken(8 + r, kind), one ? r : -13);
            }
        }
        Check.due("29: a man", x.taken(1, 6), 33);
        for (int kind = 0; kind < 6; kind++) {
            Check.due("29: a man for a rule", x.taken(0, kind), -13);
        }
        Check.due("29: nothing at 2", x.taken(2, 6), -11);
        Check.due("29: nothing at 7", x.taken(7, 0), -11);
        Check.due("29: nothing at 14", x.taken(14, 6), -11);
        Check.due("29: nothing at 15", x.taken(15, 0), -11);
        Check.due("29: 16", x.taken(16, 0), -12);
        Check.due("29: -1", x.taken(-1, 6), -12);
        Check.due("29: kind 7", x.taken(0, 7), -2);
        Check.due("29: kind -1", x.taken(8, -1), -2);
        Check.due("29: BAD ahead of -12", x.taken(99, 7), -2);
    }
}
