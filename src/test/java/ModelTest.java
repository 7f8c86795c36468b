/** All promises: runs of 512 calls on the class and on the model, answers compared. */
public final class ModelTest {
    private static final int RUNS = 400;
    private static final int CALLS = 512;

    private final Chance c;
    private final LastKeg x = new LastKeg();
    private final Model y = new Model();
    private int calls = 0;
    private final String run;
    private final int[] boundsOf = {12, 999, 99, 9999};

    private ModelTest(int run) {
        this.run = "run " + run + ": ";
        c = new Chance(run);
    }

    public static void main(String[] args) {
        int runs = args.length > 1 ? Integer.parseInt(args[1]) : RUNS;
        for (int run = 0; run < runs; run++) {
            new ModelTest(run).go();
        }
        Check.finish();
    }

    private void due(String call, long got, long want) {
        calls++;
        Check.due(run + "call " + calls + ": " + call, got, want);
    }

    private void go() {
        prepare();
        while (calls < CALLS) {
            int what = c.below(40);
            if (what < 14) {
                tell(what);
            } else if (what < 32) {
                ask(what);
            } else {
                host(what);
            }
        }
    }

    /** A boat in which something is at stake. */
    private void prepare() {
        for (int m = c.from(0, 8); m > 0; m--) {
            man(c.from(1, c.once(2) ? 20 : 99), c.once(2) ? 0 : c.from(0, 9));
        }
        boat(0, c.from(1, 12));
        boat(1, c.once(2) ? c.from(0, 80) : c.from(0, 400));
        boat(2, c.from(0, c.once(2) ? 30 : 99));
        boat(3, c.from(0, c.once(2) ? 200 : 1200));
        for (int d = 0; d < 12; d++) {
            if (c.once(3)) {
                day(d, 0, c.from(0, 9));
            }
            if (c.once(6)) {
                day(d, 1, c.from(0, 50));
            }
        }
        for (int r = c.from(0, 6); r > 0; r--) {
            rule(c.from(0, 5), c.once(2) ? c.from(0, 12) : c.from(0, 99), c.from(0, 3));
        }
        if (c.once(2)) {
            text();
            force(1);
        }
    }

    private void man(int v, int r) {
        due("man " + v + " " + r, x.man(v, r), y.man(v, r));
    }

    private void boat(int what, int v) {
        due("boat " + what + " " + v, x.boat(what, v), y.boat(what, v));
    }

    private void day(int d, int what, int v) {
        due("day " + d + " " + what + " " + v, x.day(d, what, v), y.day(d, what, v));
    }

    private void rule(int kind, int more, int s) {
        if (kind == 4 && !c.once(5) && s >= 0 && s < 4) {
            int sort = c.below(3);
            int n = y.men.size();
            due("sheet", x.sheet(s, sort, n), y.sheet(s, sort, n));
            for (int i = 0; i < n; i++) {
                int v = c.once(60) ? c.around(0, 50) : c.from(0, 20);
                due("cell", x.cell(s, i, v), y.cell(s, i, v));
            }
        }
        due("rule " + kind + " " + more + " " + s, x.rule(kind, more, s), y.rule(kind, more, s));
        due("boatTold 5", x.boatTold(5), y.boatTold(5));
    }

    private void force(int t) {
        due("force " + t, x.force(t), y.force(t));
    }

    private void text() {
        String made = TextMaker.make(c);
        for (int i = 0; i < made.length(); ) {
            int n = Math.min(c.from(1, 8), made.length() - i);
            long w = c.once(2) ? 0 : c.below(Integer.MAX_VALUE);
            for (int k = 0; k < n; k++) {
                w = w << 8 | made.charAt(i + k) & 255;
            }
            due("feed " + w + " " + n, x.feed(w, n), y.feed(w, n));
            i += n;
        }
        due("text " + made.replace('\n', '~'), x.text(), y.text());
        due("boatTold 6", x.boatTold(6), y.boatTold(6));
    }

    private void tell(int what) {
        switch (what) {
            case 0:
                man(c.around(1, 99), c.around(0, 9));
                break;
            case 1:
            case 2: {
                int m = c.around(0, 7);
                int of = c.around(0, 1);
                int v = of == 0 ? c.around(1, 99) : c.around(0, 9);
                due("set " + m + " " + of + " " + v, x.set(m, of, v), y.set(m, of, v));
                break;
            }
            case 3:
            case 4: {
                int of = c.around(0, 3);
                boat(of, c.around(of == 0 ? 1 : 0, boundsOf[Math.floorMod(of, 4)]));
                break;
            }
            case 5:
            case 6: {
                int of = c.around(0, 1);
                day(c.around(0, 11), of, c.around(0, of == 0 ? 9 : 50));
                break;
            }
            case 7: {
                int of = c.around(0, 8);
                due("boatTold " + of, x.boatTold(of), y.boatTold(of));
                break;
            }
            case 8:
                rule(c.around(0, 5), c.around(0, 99), c.around(0, 3));
                break;
            case 9: {
                int r = c.around(0, 7);
                int of = c.around(0, 9);
                due("ruleTold " + r + " " + of, x.ruleTold(r, of), y.ruleTold(r, of));
                break;
            }
            case 10: {
                long w = (long) c.below(Integer.MAX_VALUE) << 33 ^ c.below(Integer.MAX_VALUE);
                int n = c.around(1, 8);
                if (c.once(3)) {
                    due("feed " + w + " " + n, x.feed(w, n), y.feed(w, n));
                }
                break;
            }
            case 11:
                if (c.once(3)) {
                    text();
                }
                break;
            case 12:
                force(c.around(0, 5));
                break;
            default:
                if (c.once(2)) {
                    due("image", x.image(), y.image());
                } else {
                    due("back", x.back(), y.back());
                }
                break;
        }
    }

    private int someRule() {
        return c.once(20) ? c.around(0, 7) : c.below(Math.max(1, y.rules.size()));
    }

    private int someMan() {
        return c.once(20) ? c.around(0, 7) : c.below(Math.max(1, y.men.size()));
    }

    private int part() {
        return c.once(30) ? c.around(0, 1) : c.below(2);
    }

    private void ask(int what) {
        int r = someRule();
        int m = someMan();
        int part = part();
        switch (what) {
            case 14:
            case 15:
                due("home " + r + " " + m + " " + part, x.home(r, m, part), y.home(r, m, part));
                break;
            case 16:
            case 17: {
                int of = part();
                due("mean " + r + " " + of + " " + part, x.mean(r, of, part), y.mean(r, of, part));
                break;
            }
            case 18:
            case 19:
            case 20: {
                int d = c.around(0, y.boat[0]);
                int of = c.around(0, 3);
                due("told " + r + " " + d + " " + m + " " + of, x.told(r, d, m, of), y.told(r, d, m, of));
                break;
            }
            case 21:
            case 22: {
                int of = c.around(0, 2);
                due("ends " + r + " " + of, x.ends(r, of), y.ends(r, of));
                break;
            }
            case 23: {
                int of = c.around(0, 1);
                due("best " + of, x.best(of), y.best(of));
                break;
            }
            case 24:
                if (c.once(5)) {
                    due("rations " + r, x.rations(r), y.rations(r));
                }
                break;
            case 25:
            case 26: {
                int set = c.around(1, Math.max(1, (1 << y.men.size()) - 1));
                set = c.once(2) ? 1 << c.below(8) : set;
                due("take " + r + " " + set, x.take(r, set), y.take(r, set));
                break;
            }
            case 27:
                if (c.once(4)) {
                    due("takes " + r, x.takes(r), y.takes(r));
                }
                break;
            case 28:
            case 29: {
                int v = c.around(0, 50);
                v = c.once(2) ? c.from(0, 8) : v;
                due("hid " + r + " " + m + " " + v + " " + part, x.hid(r, m, v, part), y.hid(r, m, v, part));
                break;
            }
            case 30:
                judge(r);
                break;
            default:
                due("until " + r + " " + m, x.until(r, m), y.until(r, m));
                break;
        }
    }

    private void judge(int r) {
        int d = c.around(0, y.boat[0] - 1);
        int s = c.around(0, 3);
        if (c.once(2) && s >= 0 && s < 4) {
            int n = y.men.size();
            due("sheet", x.sheet(s, 2, n), y.sheet(s, 2, n));
            for (int i = 0; i < n; i++) {
                int got = Math.max(0, y.told(r, d, i, 1)) + (c.once(9) ? 1 : 0);
                due("cell", x.cell(s, i, got), y.cell(s, i, got));
            }
        }
        due("judge " + r + " " + d + " " + s, x.judge(r, d, s), y.judge(r, d, s));
    }

    private void host(int what) {
        int s = c.around(0, 3);
        int i = c.around(0, 12);
        int j = c.around(0, 12);
        int n = c.around(0, 8);
        switch (what) {
            case 32: {
                int sort = c.around(-1, 2);
                int size = c.once(2) ? c.around(0, 40) : c.from(0, 16);
                due("sheet " + s + " " + sort + " " + size, x.sheet(s, sort, size), y.sheet(s, sort, size));
                break;
            }
            case 33:
            case 34:
            case 35: {
                int v = c.once(3) ? c.around(0, 70000) : c.from(0, 12) + 256 * c.below(2);
                due("cell " + s + " " + i + " " + v, x.cell(s, i, v), y.cell(s, i, v));
                break;
            }
            case 36: {
                int o = c.around(0, 3);
                due("copy " + s + " " + i + " " + o + " " + j + " " + n, x.copy(s, i, o, j, n), y.copy(s, i, o, j, n));
                break;
            }
            case 37: {
                int sort = c.around(0, 2);
                if (c.once(2) && s >= 0 && s < 4) {
                    sort = y.sorts[s];
                }
                due("men " + s + " " + sort + " " + i + " " + n, x.men(s, sort, i, n), y.men(s, sort, i, n));
                due("boatTold 4", x.boatTold(4), y.boatTold(4));
                break;
            }
            default: {
                int at = c.around(0, 15);
                int kind = c.around(0, 6);
                due("taken " + at + " " + kind, x.taken(at, kind), y.taken(at, kind));
                break;
            }
        }
    }
}
