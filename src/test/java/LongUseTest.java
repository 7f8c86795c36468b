/** 512 calls on one object, the dearest among them: each answers, none throws. */
public final class LongUseTest {
    private static final int CALLS = 512;

    private LongUseTest() {
    }

    public static void main(String[] args) {
        int calls = 0;
        LastKeg x = new LastKeg();
        for (int m = 0; m < 8; m++) {
            Check.due("man", x.man(60 + m, m), m);
            calls++;
        }
        for (int r = 0; r < 8; r++) {
            int kind = r % 6 == 4 ? 3 : r % 6;
            Check.due("rule", x.rule(kind, 3 * r, 0), r);
            calls++;
        }
        for (int d = 0; d < 12; d++) {
            Check.due("day", x.day(d, 0, 1), 0);
            Check.due("day", x.day(d, 1, 2 * d), 0);
            calls += 2;
        }
        x.boat(0, 12);
        x.boat(1, 999);
        x.boat(2, 50);
        x.boat(3, 9999);
        calls += 4;
        String text = longest();
        for (int i = 0; i < 160; i += 8) {
            long w = 0;
            for (int k = 0; k < 8; k++) {
                w = w << 8 | text.charAt(i + k);
            }
            Check.due("feed", x.feed(w, 8), i + 8);
            calls++;
        }
        Check.due("text", x.text(), 1);
        Check.due("force", x.force(1), 0);
        calls += 2;
        long first = x.rations(0);
        calls++;
        for (int i = 0; calls < CALLS; i++, calls++) {
            dear(x, i);
        }
        Check.due("calls", calls, CALLS);
        Check.due("nothing has changed since", x.rations(0), first);
        Check.finish();
    }

    /** As long as the tape, with as many signs as it can have. */
    private static String longest() {
        StringBuilder s = new StringBuilder("need 3+rows*0");
        while (s.length() < 80) {
            s.append("+0");
        }
        s.append(";row 1");
        while (s.length() < 158) {
            s.append("*1");
        }
        s.append(s.length() == 158 ? " ;" : ";");
        return s.toString();
    }

    private static void dear(LastKeg x, int i) {
        int r = i % 8;
        switch (i / 8 % 6) {
            case 0:
            case 1: {
                int ration = x.rations(r);
                Check.holds("rations", ration >= 0 && ration <= 99);
                break;
            }
            case 2: {
                int set = x.takes(r);
                Check.holds("takes", set == -1 || set > 0 && Integer.bitCount(set) <= 3 && set < 256);
                break;
            }
            case 3: {
                int best = x.best(r % 2);
                Check.holds("best", best >= 0 && best < 8);
                break;
            }
            case 4: {
                long below = x.hid(r, i % 8, i % 51, 1);
                Check.holds("hid", below > 0 && below <= 1000000000000L);
                break;
            }
            default: {
                long above = x.mean(r, 0, 0);
                long below = x.mean(r, 0, 1);
                Check.holds("mean", above >= 0 && below > 0 && above <= 8 * below);
                break;
            }
        }
    }
}
