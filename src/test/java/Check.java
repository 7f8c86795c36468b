import java.util.Set;
import java.util.TreeSet;

/** Counts the answers that are not the due ones; a test ends with finish(). */
final class Check {
    private static final Set<String> NAMES = new TreeSet<>();
    private static String running = "";
    private static int asked = 0;
    private static int wrong = 0;

    private Check() {
    }

    static void due(String call, long got, long want) {
        asked++;
        if (got != want) {
            complain(call + " answered " + got + ", due is " + want);
        }
    }

    private static void complain(String of) {
        wrong++;
        if (wrong <= 40) {
            System.out.println(running + of);
        }
    }

    /** A test with a name that no other has, which looks at one answer at least. */
    static void test(String name, Runnable body) {
        running = name + " | ";
        if (!NAMES.add(name)) {
            complain("another test has this name");
        }
        int before = asked;
        body.run();
        if (asked == before) {
            complain("looked at nothing");
        }
        running = "";
    }

    /** Whether a test's name begins so. */
    static boolean isTested(String beginning) {
        for (String name : NAMES) {
            if (name.startsWith(beginning)) {
                return true;
            }
        }
        return false;
    }

    static void holds(String what, boolean is) {
        due(what, is ? 1 : 0, 1);
    }

    /** Feeds a text's bytes to THE TAPE, eight at once. */
    static void feed(LastKeg x, String text) {
        for (int i = 0; i < text.length(); i += 8) {
            int n = Math.min(8, text.length() - i);
            long w = 0;
            for (int k = 0; k < n; k++) {
                w = w << 8 | text.charAt(i + k) & 255;
            }
            x.feed(w, n);
        }
    }

    static int read(LastKeg x, String text) {
        feed(x, text);
        return x.text();
    }

    /** A sheet of ints with these numbers. */
    static void sheet(LastKeg x, int s, int... numbers) {
        x.sheet(s, 2, numbers.length);
        for (int i = 0; i < numbers.length; i++) {
            x.cell(s, i, numbers[i]);
        }
    }

    static void finish() {
        String named = NAMES.isEmpty() ? "" : NAMES.size() + " named tests, ";
        System.out.println(named + asked + " answers looked at, " + wrong + " not as due");
        if (wrong != 0 || asked == 0) {
            System.exit(1);
        }
    }
}
