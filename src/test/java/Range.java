import java.util.function.Supplier;

/** Both ends of what a call takes, what lies just outside of them, and as far as an int goes. */
final class Range {
    /** Gives a number to an object. */
    interface Give {
        long to(LastKeg x, int v);
    }

    private Range() {
    }

    /** What was is answered; refused, it is as it was. */
    static void exchanged(String what, int low, int high, long refusal, Supplier<LastKeg> made, Give give, int right) {
        for (int v : new int[] {low, high}) {
            Check.test(what + ": " + v + " is taken", () -> {
                LastKeg x = made.get();
                give.to(x, right);
                Check.due("what was", give.to(x, v), right);
                Check.due("what it became", give.to(x, right), v);
            });
        }
        for (int v : new int[] {low - 1, high + 1, Integer.MIN_VALUE, Integer.MAX_VALUE}) {
            Check.test(what + ": " + v + " is refused", () -> {
                LastKeg x = made.get();
                give.to(x, right);
                Check.due("the call", give.to(x, v), refusal);
                Check.due("what it is still", give.to(x, right), right);
            });
        }
    }

    /** Of a new object each answer is the one that is due. */
    static void answered(String what, Supplier<LastKeg> made, Give give, long due, int... values) {
        for (int v : values) {
            Check.test(what + ": " + v, () -> Check.due("the call", give.to(made.get(), v), due));
        }
    }
}
