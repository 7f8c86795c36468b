import java.util.function.Consumer;
import java.util.function.Supplier;

/** AN IMAGE, SHEETS, and what the host asks: promises 23 to 29. */
final class HostBounds {
    private static final int LOW = Integer.MIN_VALUE, HIGH = Integer.MAX_VALUE;

    private HostBounds() {
    }

    static void all() {
        image();
        kept();
        notKept();
        sheetBounds();
        sheetAnew();
        cells();
        cellValues();
        copies();
        copiedOnto();
        copyRefused();
        menBounds();
        menLeftOut();
        menAhead();
        taken();
    }

    private static void image() {
        Check.test("23: AN IMAGE of no MEN", () -> {
            LastKeg x = new LastKeg();
            Check.due("image", x.image(), 0);
            Check.due("back", x.back(), 0);
        });
        Check.test("23: AN IMAGE of 8 MEN", () -> {
            LastKeg x = State.FULL.make();
            Check.due("image", x.image(), 8);
            Check.due("back", x.back(), 8);
            Check.due("STORE of 7", x.taken(7, 6), 97);
        });
        Check.test("23: it changes nothing but THE IMAGE", () -> {
            LastKeg x = State.SOME.make();
            LastKeg y = State.SOME.make();
            y.back();
            y.image();
            x.back();
            Check.due("image", x.image(), 3);
            Check.due("image again", x.image(), 3);
            Probe.alike(x, y);
        });
        Check.test("23: the later one is kept", () -> {
            LastKeg x = new LastKeg();
            x.man(1, 0);
            x.image();
            x.set(0, 0, 2);
            x.image();
            x.set(0, 0, 3);
            Check.due("back", x.back(), 1);
            Check.due("STORE", x.taken(0, 6), 2);
        });
        Check.test("24: without AN IMAGE STATE, then as in it", () -> {
            LastKeg x = new LastKeg();
            Check.due("back", x.back(), -3);
            x.man(9, 0);
            Check.due("back", x.back(), -3);
            x.image();
            Check.due("back", x.back(), 1);
        });
        Check.test("24: again and again", () -> {
            LastKeg x = new LastKeg();
            x.man(9, 0);
            x.image();
            for (int v = 1; v <= 3; v++) {
                x.set(0, 0, v);
                Check.due("back", x.back(), 1);
                Check.due("STORE", x.taken(0, 6), 9);
            }
        });
    }

    /** One thing is changed behind THE IMAGE: back() makes all as it was. */
    private static void kept(String what, Consumer<LastKeg> change) {
        Check.test("24: it keeps " + what, () -> {
            LastKeg x = imaged();
            change.accept(x);
            Check.due("back", x.back(), 8);
            Probe.alike(x, imaged());
        });
    }

    private static LastKeg imaged() {
        LastKeg x = State.FULL.make();
        x.image();
        return x;
    }

    private static void kept() {
        kept("nothing that has changed", x -> { });
        kept("the STORE of man 0", x -> x.set(0, 0, 1));
        kept("the STORE of man 7", x -> x.set(7, 0, 1));
        kept("DAYS", x -> x.boat(0, 1));
        kept("THE KEG", x -> x.boat(1, 0));
        kept("THE RATION", x -> x.boat(2, 0));
        kept("MILES", x -> x.boat(3, 0));
        for (int d = 0; d < 12; d++) {
            int on = d;
            kept("the CHANCE of day " + d, x -> x.day(on, 0, 9 - (on + 1) % 10));
            kept("the RAIN of day " + d, x -> x.day(on, 1, 49 - on));
        }
        kept("THE LAW, TEXT 0 since", x -> x.force(0));
        kept("THE LAW, TEXT 4 since", x -> x.force(4));
        Check.test("24: it keeps TEXT 0 as THE LAW", () -> {
            LastKeg x = State.SOME.make();
            x.force(0);
            x.image();
            x.force(1);
            x.back();
            Check.due("THE LAW", x.boatTold(7), 0);
        });
    }

    private static void notKept() {
        Check.test("24: MEN that came since stay, and as they are", () -> {
            LastKeg x = new LastKeg();
            x.image();
            for (int m = 0; m < 8; m++) {
                x.man(10 + m, m);
            }
            Check.due("back", x.back(), 8);
            for (int m = 0; m < 8; m++) {
                Check.due("STORE of " + m, x.taken(m, 6), 10 + m);
                Check.due("ROWS of " + m, x.set(m, 1, 0), m);
            }
        });
        Check.test("24: those who were there are as in it, those who came stay", () -> {
            LastKeg x = new LastKeg();
            x.man(10, 1);
            x.image();
            x.man(20, 2);
            x.set(0, 0, 11);
            x.set(1, 0, 21);
            Check.due("back", x.back(), 2);
            Check.due("STORE of 0", x.taken(0, 6), 10);
            Check.due("STORE of 1", x.taken(1, 6), 21);
        });
        Check.test("24: ROWS stay", () -> {
            LastKeg x = imaged();
            x.set(7, 1, 1);
            x.back();
            Check.due("ROWS", x.set(7, 1, 0), 1);
        });
        Check.test("24: RULES, TEXTS, THE TAPE stay", () -> {
            LastKeg x = new LastKeg();
            x.image();
            x.rule(2, 33, 0);
            Check.read(x, "need 1;row 1;");
            Check.feed(x, "need");
            x.back();
            Check.due("RULES", x.boatTold(5), 1);
            Check.due("MORE", x.ruleTold(0, 1), 33);
            Check.due("TEXTS", x.boatTold(6), 2);
            Check.due("bytes", x.boatTold(8), 4);
            Check.due("force", x.force(1), 0);
        });
        Check.test("24: SHEETS stay", () -> {
            LastKeg x = new LastKeg();
            x.image();
            Check.sheet(x, 0, 44, 4);
            x.back();
            Check.due("men", x.men(0, 2, 0, 1), 1);
            Check.due("STORE", x.taken(0, 6), 44);
        });
    }

    private static void sheetBounds() {
        Supplier<LastKeg> made = LastKeg::new;
        Range.answered("25: a SHEET is taken", made, (x, v) -> x.sheet(v, 0, 1), 1, 0, 1, 2, 3);
        Range.answered("25: a SHEET is refused", made, (x, v) -> x.sheet(v, 0, 1), -2, LOW, -1, 4, HIGH);
        Range.answered("25: a SHEET that becomes missing is refused", made, (x, v) -> x.sheet(v, -1, 1), -2, LOW, -1, 4, HIGH);
        Range.answered("25: a sort is taken", made, (x, v) -> x.sheet(0, v, 1), 1, -1, 0, 1, 2);
        Range.answered("25: a sort is refused", made, (x, v) -> x.sheet(0, v, 1), -2, LOW, -2, 3, HIGH);
        for (int sort = 0; sort < 3; sort++) {
            int of = sort;
            Range.answered("25: n is taken, sort " + sort, made, (x, v) -> x.sheet(0, of, v), 1, 0, 1, 39, 40);
            Range.answered("25: n above 40, sort " + sort, made, (x, v) -> x.sheet(0, of, v), -2, 41, 42, HIGH);
            Range.answered("25: n below 0, sort " + sort, made, (x, v) -> x.sheet(0, of, v), -14, LOW, -2, -1);
        }
        Range.answered("25: n does not matter, sort -1", made, (x, v) -> x.sheet(0, -1, v), 1, LOW, -1, 0, 40, 41, HIGH);
        Check.test("25: one of 40 has places 0 to 39", () -> {
            LastKeg x = new LastKeg();
            x.sheet(3, 0, 40);
            Check.due("place 0", x.cell(3, 0, 1), 1);
            Check.due("place 39", x.cell(3, 39, 1), 1);
            Check.due("place 40", x.cell(3, 40, 1), -12);
        });
        Check.test("25: one of size 0 is there, but has no place", () -> {
            LastKeg x = new LastKeg();
            x.sheet(0, 2, 0);
            Check.due("cell", x.cell(0, 0, 1), -12);
            Check.due("copy of none", x.copy(0, 0, 0, 0, 0), 0);
            Check.due("men of none", x.men(0, 2, 0, 0), 0);
            Check.due("men", x.men(0, 2, 0, 1), -12);
        });
        Check.test("25: missing it is not there", () -> {
            LastKeg x = new LastKeg();
            x.sheet(0, 2, 4);
            Check.due("sheet", x.sheet(0, -1, 4), 1);
            Check.due("cell", x.cell(0, 0, 1), -11);
            Check.due("sheet again", x.sheet(0, -1, 4), 1);
            Check.due("back again", x.sheet(0, 2, 1), 1);
            Check.due("cell", x.cell(0, 0, 1), 1);
        });
    }

    /** MEN as many as numbers, who are told them by a RULE: so they are read. */
    private static void reads(LastKeg x, int s, int sort, int at, int... due) {
        x.sheet(3, sort, due.length);
        Check.due("copy", x.copy(s, at, 3, 0, due.length), due.length);
        int r = x.rule(4, 0, 3);
        for (int i = 0; i < due.length; i++) {
            Check.due("number " + (at + i), x.ruleTold(r, 2 + i), due[i]);
        }
    }

    private static void sheetAnew() {
        Check.test("25: all 40 are 0", () -> {
            LastKeg x = Boats.men(8);
            x.sheet(0, 2, 40);
            for (int at = 0; at < 40; at += 8) {
                reads(x, 0, 2, at, 0, 0, 0, 0, 0, 0, 0, 0);
            }
        });
        Check.test("25: made anew all are 0", () -> {
            LastKeg x = Boats.men(4);
            Check.sheet(x, 0, 1, 2, 3, 4);
            x.sheet(0, 2, 4);
            reads(x, 0, 2, 0, 0, 0, 0, 0);
        });
        Check.test("25: made anew smaller, then larger, all are 0", () -> {
            LastKeg x = Boats.men(4);
            Check.sheet(x, 0, 1, 2, 3, 4);
            x.sheet(0, 2, 2);
            x.sheet(0, 2, 4);
            reads(x, 0, 2, 0, 0, 0, 0, 0);
        });
        Check.test("25: missing, then made anew, all are 0", () -> {
            LastKeg x = Boats.men(4);
            Check.sheet(x, 0, 1, 2, 3, 4);
            x.sheet(0, -1, 4);
            x.sheet(0, 2, 4);
            reads(x, 0, 2, 0, 0, 0, 0, 0);
        });
        Check.test("25: made anew of another sort all are 0", () -> {
            LastKeg x = Boats.men(2);
            Check.sheet(x, 0, 1, 2);
            x.sheet(0, 0, 2);
            Check.due("of that sort", x.men(0, 0, 0, 0), 0);
            Check.due("no more of the other", x.men(0, 2, 0, 0), -13);
            reads(x, 0, 0, 0, 0, 0);
        });
        Check.test("25: the other SHEETS stay", () -> {
            LastKeg x = Boats.men(2);
            Check.sheet(x, 0, 1, 2);
            Check.sheet(x, 1, 3, 4);
            Check.sheet(x, 2, 5, 6);
            x.sheet(1, -1, 0);
            reads(x, 0, 2, 0, 1, 2);
            reads(x, 2, 2, 0, 5, 6);
            x.sheet(1, 2, 2);
            reads(x, 0, 2, 0, 1, 2);
            reads(x, 2, 2, 0, 5, 6);
        });
    }

    private static LastKeg sheetOf(int size) {
        LastKeg x = new LastKeg();
        x.sheet(0, 2, size);
        return x;
    }

    private static void cells() {
        Range.answered("26: a SHEET is refused", State.SOME::make, (x, v) -> x.cell(v, 0, 1), -2, LOW, -1, 4, HIGH);
        Range.answered("26: a SHEET is taken", State.FULL::make, (x, v) -> x.cell(v, 0, 1), 1, 0, 1, 2, 3);
        Range.answered("26: a SHEET is missing", LastKeg::new, (x, v) -> x.cell(v, 0, 1), -11, 0, 1, 2, 3);
        Range.answered("26: a place is taken, of 40", () -> sheetOf(40), (x, v) -> x.cell(0, v, 1), 1, 0, 1, 38, 39);
        Range.answered("26: a place is outside, of 40", () -> sheetOf(40), (x, v) -> x.cell(0, v, 1), -12, LOW, -1, 40, HIGH);
        Range.answered("26: a place is taken, of 1", () -> sheetOf(1), (x, v) -> x.cell(0, v, 1), 1, 0);
        Range.answered("26: a place is outside, of 1", () -> sheetOf(1), (x, v) -> x.cell(0, v, 1), -12, LOW, -1, 1, HIGH);
        Range.answered("26: a place is outside, of 0", () -> sheetOf(0), (x, v) -> x.cell(0, v, 1), -12, LOW, -1, 0, 1, HIGH);
        Check.test("26: number i alone becomes v", () -> {
            LastKeg x = Boats.men(8);
            Check.sheet(x, 0, 1, 2, 3, 4, 5, 6, 7, 8);
            x.cell(0, 0, 11);
            x.cell(0, 7, 18);
            reads(x, 0, 2, 0, 11, 2, 3, 4, 5, 6, 7, 18);
        });
    }

    /** What a number becomes is seen by the STORE of a man who comes of it; 0: none comes. */
    private static int store(int sort, int v) {
        LastKeg x = new LastKeg();
        x.sheet(0, sort, 2);
        Check.due("cell", x.cell(0, 0, v), 1);
        Check.due("men", x.men(0, sort, 0, 1), x.boatTold(4));
        return Math.max(0, x.taken(0, 6));
    }

    private static void cellValues() {
        int[] v = {7, 256 + 7, -256 + 7, 65536 + 7, -65536 + 7, LOW + 7, HIGH, LOW, -1, 128 + 7, HIGH - 248, 32768 + 7};
        int[][] due = {
            {7, 7, 7, 7, 7, 7, 0, 0, 0, 0, 7, 7},
            {7, 0, 0, 7, 7, 7, 0, 0, 0, 0, 0, 0},
            {7, 0, 0, 0, 0, 0, 0, 0, 0, 0, 0, 0}};
        String[] sorts = {"bytes", "shorts", "ints"};
        for (int sort = 0; sort < 3; sort++) {
            for (int i = 0; i < v.length; i++) {
                int of = sort;
                int number = v[i];
                int want = due[sort][i];
                Check.test("26: of " + sorts[sort] + " " + number + " is " + (want > 0 ? "" + want : "no STORE"), () ->
                    Check.due("STORE", store(of, number), want));
            }
        }
    }

    private static LastKeg eightNumbers() {
        LastKeg x = Boats.men(8);
        Check.sheet(x, 0, 1, 2, 3, 4, 5, 6, 7, 8);
        x.sheet(1, 2, 8);
        return x;
    }

    private static void copies() {
        Check.test("27: all of 8 to another", () -> {
            LastKeg x = eightNumbers();
            Check.due("copy", x.copy(0, 0, 1, 0, 8), 8);
            reads(x, 1, 2, 0, 1, 2, 3, 4, 5, 6, 7, 8);
            reads(x, 0, 2, 0, 1, 2, 3, 4, 5, 6, 7, 8);
        });
        Check.test("27: the last to the first place", () -> {
            LastKeg x = eightNumbers();
            Check.due("copy", x.copy(0, 7, 1, 0, 1), 1);
            reads(x, 1, 2, 0, 8, 0, 0, 0, 0, 0, 0, 0);
        });
        Check.test("27: the first to the last place", () -> {
            LastKeg x = eightNumbers();
            Check.due("copy", x.copy(0, 0, 1, 7, 1), 1);
            reads(x, 1, 2, 0, 0, 0, 0, 0, 0, 0, 0, 1);
        });
        Check.test("27: none, at the first place and behind the last", () -> {
            LastKeg x = eightNumbers();
            Check.due("copy", x.copy(0, 0, 1, 0, 0), 0);
            Check.due("copy", x.copy(0, 8, 1, 8, 0), 0);
            Check.due("copy", x.copy(0, 8, 1, 0, 0), 0);
            reads(x, 1, 2, 0, 0, 0, 0, 0, 0, 0, 0, 0);
        });
        Check.test("27: all 40 onto themselves", () -> {
            LastKeg x = State.FULL.make();
            Check.due("copy", x.copy(2, 0, 2, 0, 40), 40);
            Probe.alike(x, State.FULL.make());
        });
        for (int sort = 0; sort < 3; sort++) {
            int of = sort;
            Check.test("27: between two of sort " + sort, () -> {
                LastKeg x = Boats.men(2);
                x.sheet(0, of, 3);
                x.sheet(1, of, 2);
                x.cell(0, 1, 44);
                x.cell(0, 2, 33);
                Check.due("copy", x.copy(0, 1, 1, 0, 2), 2);
                reads(x, 1, of, 0, 44, 33);
            });
        }
    }

    private static void copiedOnto() {
        Check.test("27: onto its own, 1 place up, as they were", () -> {
            LastKeg x = eightNumbers();
            Check.due("copy", x.copy(0, 0, 0, 1, 7), 7);
            reads(x, 0, 2, 0, 1, 1, 2, 3, 4, 5, 6, 7);
        });
        Check.test("27: onto its own, 1 place down, as they were", () -> {
            LastKeg x = eightNumbers();
            Check.due("copy", x.copy(0, 1, 0, 0, 7), 7);
            reads(x, 0, 2, 0, 2, 3, 4, 5, 6, 7, 8, 8);
        });
        Check.test("27: onto its own, half over itself", () -> {
            LastKeg x = eightNumbers();
            Check.due("copy", x.copy(0, 0, 0, 2, 4), 4);
            reads(x, 0, 2, 0, 1, 2, 1, 2, 3, 4, 7, 8);
        });
    }

    private static void copyRefused() {
        int[][] outside = {{-1, 0, 1}, {0, -1, 1}, {0, 0, -1}, {8, 0, 1}, {0, 8, 1}, {9, 0, 0}, {0, 9, 0}, {0, 0, 9},
            {1, 0, 8}, {0, 1, 8}, {7, 0, 2}, {0, 7, 2}, {LOW, 0, 1}, {HIGH, 0, 1}, {0, LOW, 1}, {0, HIGH, 1}, {0, 0, LOW},
            {0, 0, HIGH}, {HIGH, 0, HIGH}, {0, HIGH, HIGH}, {1, 1, HIGH}, {LOW, LOW, LOW}, {-8, 0, 8}, {0, -8, 8}};
        for (int[] c : outside) {
            Check.test("27: from " + c[0] + " to " + c[1] + ", " + c[2] + " are outside, none is copied", () -> {
                LastKeg x = eightNumbers();
                Check.due("copy", x.copy(0, c[0], 1, c[1], c[2]), -12);
                reads(x, 1, 2, 0, 0, 0, 0, 0, 0, 0, 0, 0);
            });
        }
        Check.test("27: the one has room, the other has not", () -> {
            LastKeg x = Boats.men(2);
            Check.sheet(x, 0, 1, 2, 3, 4);
            Check.sheet(x, 1, 5, 6);
            Check.due("to the smaller", x.copy(0, 0, 1, 0, 3), -12);
            Check.due("from the smaller", x.copy(1, 0, 0, 0, 3), -12);
            reads(x, 1, 2, 0, 5, 6);
            reads(x, 0, 2, 0, 1, 2);
        });
    }

    /** A SHEET of bytes: STORES 11, 12, .. and ROWS 1, 2, .. */
    private static LastKeg menSheet(int size) {
        LastKeg x = new LastKeg();
        x.sheet(0, 0, size);
        for (int i = 0; i < size; i++) {
            x.cell(0, i, i % 2 == 0 ? 11 + i / 2 : (1 + i / 2) % 10);
        }
        return x;
    }

    private static void menBounds() {
        Supplier<LastKeg> made = () -> menSheet(16);
        for (int n = 0; n <= 8; n++) {
            Range.answered("28: n is taken", made, (x, v) -> x.men(0, 0, 0, v), n, n);
        }
        Range.answered("28: n is refused", made, (x, v) -> x.men(0, 0, 0, v), -2, LOW, -1, 9, HIGH);
        Range.answered("28: a SHEET is refused", made, (x, v) -> x.men(v, 0, 0, 1), -2, LOW, -1, 4, HIGH);
        Range.answered("28: a sort is refused", made, (x, v) -> x.men(0, v, 0, 1), -2, LOW, -1, 3, HIGH);
        Range.answered("28: of another sort", made, (x, v) -> x.men(0, v, 0, 1), -13, 1, 2);
        Range.answered("28: a SHEET is missing", made, (x, v) -> x.men(v, 0, 0, 1), -11, 1, 2, 3);
        Range.answered("28: a place is taken", made, (x, v) -> x.men(0, 0, v, 1), 1, 0, 2, 12, 14);
        Range.answered("28: a place is outside", made, (x, v) -> x.men(0, 0, v, 1), -12, LOW, -2, -1, 15, 16, HIGH);
        Range.answered("28: the last place of 40", () -> menSheet(40), (x, v) -> x.men(0, 0, v, 1), 1, 38);
        Range.answered("28: behind the last place of 40", () -> menSheet(40), (x, v) -> x.men(0, 0, v, 1), -12, 39, 40);
        Range.answered("28: 8 of 40", () -> menSheet(40), (x, v) -> x.men(0, 0, v, 8), 8, 0, 2, 24);
        Range.answered("28: none, though the place is the last", made, (x, v) -> x.men(0, 0, v, 0), 0, 0, 15, 16);
        Check.test("28: two by two, as of man()", () -> {
            LastKeg x = menSheet(16);
            Check.due("men", x.men(0, 0, 2, 7), 7);
            for (int m = 0; m < 7; m++) {
                Check.due("STORE of " + m, x.taken(m, 6), 12 + m);
                Check.due("ROWS of " + m, x.set(m, 1, 0), 2 + m);
            }
            Check.due("MEN", x.boatTold(4), 7);
        });
        Check.test("28: from an odd place on", () -> {
            LastKeg x = new LastKeg();
            Check.sheet(x, 0, 50, 60, 7, 9);
            Check.due("men", x.men(0, 2, 1, 1), 1);
            Check.due("STORE", x.taken(0, 6), 60);
            Check.due("ROWS", x.set(0, 1, 0), 7);
        });
        Check.test("28: behind the MEN who are there", () -> {
            LastKeg x = menSheet(4);
            x.man(50, 5);
            Check.due("men", x.men(0, 0, 0, 2), 2);
            Check.due("STORE of 0", x.taken(0, 6), 50);
            Check.due("STORE of 1", x.taken(1, 6), 11);
            Check.due("STORE of 2", x.taken(2, 6), 12);
        });
    }

    private static void menLeftOut() {
        Check.test("28: those are left out whom man() would refuse", () -> {
            LastKeg x = new LastKeg();
            Check.sheet(x, 0, 0, 0, 1, 0, 99, 9, 100, 0, 1, 10, 1, -1, LOW, HIGH, 50, 5);
            Check.due("men", x.men(0, 2, 0, 8), 3);
            Check.due("MEN", x.boatTold(4), 3);
            Check.due("STORE of 0", x.taken(0, 6), 1);
            Check.due("STORE of 1", x.taken(1, 6), 99);
            Check.due("STORE of 2", x.taken(2, 6), 50);
            Check.due("ROWS of 1", x.set(1, 1, 0), 9);
        });
        Check.test("28: all are left out", () -> {
            LastKeg x = new LastKeg();
            x.sheet(0, 1, 16);
            Check.due("men", x.men(0, 1, 0, 8), 0);
            Check.due("MEN", x.boatTold(4), 0);
        });
        Check.test("28: the ninth is left out", () -> {
            LastKeg x = menSheet(16);
            x.man(50, 5);
            Check.due("men", x.men(0, 0, 0, 8), 7);
            Check.due("MEN", x.boatTold(4), 8);
            Check.due("STORE of 7", x.taken(7, 6), 17);
        });
        Check.test("28: 8 are there, all are left out", () -> {
            LastKeg x = State.FULL.make();
            Check.due("men", x.men(0, 0, 0, 8), 0);
            Probe.alike(x, State.FULL.make());
        });
        Check.test("28: none of them changes nothing", () -> {
            LastKeg x = State.SOME.make();
            Check.due("men", x.men(0, 0, 0, 0), 0);
            Probe.alike(x, State.SOME.make());
        });
    }

    private static void menAhead() {
        Check.test("28: what stood ahead of the place outside came", () -> {
            LastKeg x = menSheet(6);
            Check.due("men", x.men(0, 0, 2, 3), -12);
            Check.due("MEN", x.boatTold(4), 2);
            Check.due("STORE of 0", x.taken(0, 6), 12);
            Check.due("STORE of 1", x.taken(1, 6), 13);
            Check.due("ROWS of 1", x.set(1, 1, 0), 3);
        });
        Check.test("28: of a man the second number is outside", () -> {
            LastKeg x = menSheet(5);
            Check.due("men", x.men(0, 0, 0, 3), -12);
            Check.due("MEN", x.boatTold(4), 2);
        });
        Check.test("28: the first place is outside, none came, all else is as it was", () -> {
            LastKeg x = State.SOME.make();
            Check.due("men", x.men(2, 2, -1, 8), -12);
            Check.due("men", x.men(2, 2, 40, 8), -12);
            Probe.alike(x, State.SOME.make());
        });
        Check.test("28: who stood ahead is left out, then outside", () -> {
            LastKeg x = new LastKeg();
            x.sheet(0, 0, 2);
            Check.due("men", x.men(0, 0, 0, 2), -12);
            Check.due("MEN", x.boatTold(4), 0);
        });
        Check.test("28: 8 are there, then outside", () -> {
            LastKeg x = State.FULL.make();
            Check.due("men", x.men(0, 0, 38, 2), -12);
            Probe.alike(x, State.FULL.make());
        });
    }

    private static void taken() {
        Supplier<LastKeg> made = State.FULL::make;
        Range.answered("29: a kind is refused", made, (x, v) -> x.taken(0, v), -2, LOW, -1, 7, HIGH);
        Range.answered("29: a place is outside", made, (x, v) -> x.taken(v, 6), -12, LOW, -1, 16, HIGH);
        Check.test("29: places 0 to 7 are MEN", () -> {
            LastKeg x = State.FULL.make();
            for (int m = 0; m < 8; m++) {
                Check.due("taken " + m, x.taken(m, 6), 90 + m);
                Check.due("for a RULE", x.taken(m, 0), -13);
            }
        });
        Check.test("29: places 8 to 15 are RULES", () -> {
            LastKeg x = State.FULL.make();
            for (int r = 0; r < 8; r++) {
                Check.due("taken " + (8 + r), x.taken(8 + r, 0), r);
                Check.due("for a man", x.taken(8 + r, 6), -13);
            }
        });
        Range.answered("29: nothing lies there", LastKeg::new, (x, v) -> x.taken(v, 0), -11, 0, 7, 8, 15);
        Range.answered("29: behind the MEN, behind the RULES", State.SOME::make, (x, v) -> x.taken(v, 6), -11, 3, 7, 11, 15);
        int[][] is = {{0}, {0, 1}, {0, 2}, {0, 2, 3}, {0, 4}, {0, 1, 5}};
        for (int kind = 0; kind < 6; kind++) {
            for (int as = 0; as < 6; as++) {
                int of = kind;
                int by = as;
                boolean one = contains(is[kind], as);
                Check.test("29: KIND " + kind + (one ? " is one of KIND " : " is none of KIND ") + as, () -> {
                    LastKeg x = new LastKeg();
                    x.sheet(0, 0, 0);
                    x.rule(0, 0, 0);
                    x.rule(of, 0, 0);
                    Check.due("taken", x.taken(9, by), one ? 1 : -13);
                });
            }
        }
    }

    private static boolean contains(int[] numbers, int n) {
        for (int number : numbers) {
            if (number == n) {
                return true;
            }
        }
        return false;
    }
}
