/** A call of a test: what an object answers to some numbers. */
interface Ask {
    long of(LastKeg x, int[] a);
}
