/** Numbers that look thrown but are the same in every run. */
final class Chance {
    private long state;

    Chance(long seed) {
        state = seed * 0x9E3779B97F4A7C15L + 1;
    }

    int below(int n) {
        state = state * 6364136223846793005L + 1442695040888963407L;
        return (int) Math.floorMod(state >>> 33, (long) n);
    }

    int from(int low, int high) {
        return low + below(high - low + 1);
    }

    boolean once(int in) {
        return below(in) == 0;
    }

    /** Mostly within the bounds, at times just or far outside of them. */
    int around(int low, int high) {
        switch (below(24)) {
            case 0:
                return low - 1;
            case 1:
                return high + 1;
            case 2:
                return low;
            case 3:
                return high;
            case 4:
                return below(2) == 0 ? (once(2) ? Integer.MIN_VALUE : Integer.MAX_VALUE) : from(-300, 300);
            default:
                return from(low, high);
        }
    }
}
