/** Each sentence of the document that names a boundary case: tests told apart by name. */
public final class BoundsTest {
    private BoundsTest() {
    }

    public static void main(String[] args) {
        BoatBounds.all();
        RuleBounds.all();
        DayBounds.all();
        TextBounds.all();
        VoyageBounds.all();
        HostBounds.all();
        Refusals.all();
        for (int promise = 1; promise <= 29; promise++) {
            Check.holds("promise " + promise + " is tested", Check.isTested(promise + ": "));
        }
        Check.finish();
    }
}
