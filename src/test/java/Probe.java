import java.util.ArrayList;
import java.util.List;

/** What later calls show of an object, some 300 of them; it is used up by that. */
final class Probe {
    private final LastKeg x;
    private final List<String> calls = new ArrayList<>();
    private final List<Long> answers = new ArrayList<>();

    private Probe(LastKeg x) {
        this.x = x;
        boat();
        rules();
        sheets();
        tape();
        days();
        add("back", x.back());
        boat();
        days();
        for (int m = 0; m < 8; m++) {
            add("rows of " + m, x.set(m, 1, 0));
        }
    }

    /** Whether the two can't be told apart; both are used up. */
    static void alike(LastKeg x, LastKeg untouched) {
        Probe is = new Probe(x);
        Probe due = new Probe(untouched);
        Check.due("probes", is.answers.size(), due.answers.size());
        for (int i = 0; i < is.answers.size() && i < due.answers.size(); i++) {
            Check.due("then " + is.calls.get(i), is.answers.get(i), due.answers.get(i));
        }
    }

    private void add(String call, long answer) {
        calls.add(call);
        answers.add(answer);
    }

    private void boat() {
        for (int what = 0; what < 9; what++) {
            add("boatTold " + what, x.boatTold(what));
        }
        for (int m = 0; m < 8; m++) {
            add("STORE of " + m, x.taken(m, 6));
        }
    }

    private void rules() {
        int rules = x.boatTold(5);
        int men = x.boatTold(4);
        int days = x.boatTold(0);
        for (int r = 0; r < rules; r++) {
            for (int what = 0; what < 10; what++) {
                add("ruleTold " + r + " " + what, x.ruleTold(r, what));
            }
            add("MEAN " + r, x.mean(r, 0, 0));
            add("MILES " + r, x.told(r, days, 0, 3));
        }
        add("a RULE behind all", x.ruleTold(rules, 0));
        for (int m = 0; m < men; m++) {
            add("STORE in the end of " + m, x.told(0, days, m, 0));
        }
    }

    private void sheets() {
        int[] sizes = {0, 1, 3, 4, 8, 9, 40};
        for (int s = 0; s < 4; s++) {
            for (int n : sizes) {
                add("SHEET " + s + " has " + n, x.copy(s, 0, s, 0, n));
            }
            for (int sort = 0; sort < 3; sort++) {
                add("SHEET " + s + " is of sort " + sort, x.men(s, sort, 0, 0));
            }
            add("SHEET " + s + " tells right", x.judge(0, 0, s));
        }
        for (int s = 0; s < 3; s++) {
            pieces(s);
        }
    }

    /** Rule 0 gives what stands on the sheets: SHEET 3 takes piece by piece and is judged. */
    private void pieces(int s) {
        int men = x.boatTold(4);
        for (int sort = 0; sort < 3 && men > 0; sort++) {
            if (x.men(s, sort, 0, 0) == 0) {
                x.sheet(3, sort, men);
                for (int at = 0; at < 40 && x.copy(s, at, 3, 0, men) == men; at += men) {
                    add("SHEET " + s + " from " + at, x.judge(0, 0, 3));
                }
            }
        }
    }

    /** What the tape holds is seen by a text that goes on from there. */
    private void tape() {
        Check.feed(x, "day*7+3;");
        int text = x.text();
        add("text", text);
        add("bytes then", x.boatTold(8));
        if (text >= 0) {
            add("force", x.force(text));
            add("MILES by the text", x.told(0, 3, 0, 3));
            add("STORE by the text", x.told(0, 3, 0, 0));
        }
    }

    private void days() {
        for (int d = 0; d < 12; d++) {
            add("CHANCE " + d, x.day(d, 0, 0));
            add("RAIN " + d, x.day(d, 1, 0));
        }
    }
}
