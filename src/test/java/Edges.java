import java.util.function.Consumer;
import java.util.function.Supplier;
import java.util.function.ToLongFunction;

/** Boundary cases: each answer is told with the number of its promise and what the document says there. */
final class Edges {
    private static final int PROMISES = 49;

    private final Check check;
    private final int[] told = new int[PROMISES + 1];

    Edges(String name) {
        check = new Check(name);
    }

    void due(int promise, String words, long got, long want) {
        told[promise]++;
        check.due("promise " + promise + ": " + words, got, want);
    }

    /** A call that answers a code and leaves all as it is with a like object on which it was not made. */
    void refused(int promise, String words, Supplier<RibbonRoads> maker, ToLongFunction<RibbonRoads> call, long code) {
        for (int i = 0; i < Seen.LOOKS.size(); i++) {
            Consumer<RibbonRoads> look = Seen.LOOKS.get(i);
            RibbonRoads asked = maker.get();
            due(promise, words, call.applyAsLong(asked), code);
            look.accept(asked);
            RibbonRoads like = maker.get();
            look.accept(like);
            due(promise, words + " changes nothing, look " + i, Seen.all(asked).equals(Seen.all(like)) ? 0 : 1, 0);
        }
        RibbonRoads asked = maker.get();
        call.applyAsLong(asked);
        due(promise, words + " changes no tray", Seen.trays(asked).equals(Seen.trays(maker.get())) ? 0 : 1, 0);
    }

    /** Ends the test; each of the promises from first to last must have been told. */
    void end(int first, int last) {
        for (int p = first; p <= last; p++) {
            check.due("promise " + p + " has boundary cases", told[p] > 0 ? 1 : 0, 1);
        }
        check.end();
    }
}
