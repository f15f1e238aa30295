import java.util.List;
import java.util.function.Consumer;

/** All that calls tell of an object, as a text: two objects in like states tell the same. */
final class Seen {
    private Seen() {
    }

    /** Told of the land and what deeds change; small lands keep within the 512 calls of an object. */
    static String land(RibbonRoads r) {
        StringBuilder all = new StringBuilder();
        for (int what = 0; what < 13; what++) {
            all.append(what == 11 ? "" : r.count(what) + " ");
        }
        int cells = r.count(0) * r.count(1);
        for (int k = 0; k < cells; k++) {
            all.append("\ncell ").append(k);
            for (int what = 0; what < 5; what++) {
                all.append(' ').append(r.cell(k, what));
            }
        }
        for (int d = 0; d < r.count(2); d++) {
            all.append("\ndrum ").append(d);
            for (int what = 0; what < 5; what++) {
                all.append(' ').append(r.drum(d, what));
            }
            for (int i = 0; i < r.drum(d, 2); i++) {
                all.append(" lies ").append(r.lies(d, i));
            }
            for (int k = 0; k < cells; k++) {
                all.append(" takes ").append(r.takes(d, k));
            }
            for (int turn = 1; turn <= 4; turn++) {
                all.append(" why ").append(r.why(d, turn));
            }
        }
        for (int t = 0; t < r.count(6); t++) {
            all.append("\ntraveller ").append(t);
            for (int what = 0; what < 4; what++) {
                all.append(' ').append(r.traveller(t, what));
            }
        }
        return all.toString();
    }

    /** The tape's length, the fault, and what is judged of the trays, too. */
    static String all(RibbonRoads r) {
        StringBuilder all = new StringBuilder(land(r));
        all.append("\ntape ").append(r.count(11)).append(" fault ").append(r.fault(0)).append(' ').append(r.fault(1));
        for (int tray = 0; tray < 4; tray++) {
            all.append("\ntray ").append(tray).append(" faded ").append(r.faded(tray, 0));
            for (int what = 0; what < 4; what++) {
                all.append(' ').append(r.judge(tray, what));
            }
        }
        return all.toString();
    }

    /** What is hidden in an object comes to light by these, each on an object of its own. */
    static final List<Consumer<RibbonRoads>> LOOKS = List.of(
        r -> { },
        r -> r.undo(1),
        r -> r.undo(Math.max(1, r.count(10))),
        r -> r.restore(0),
        r -> r.restore(1),
        r -> r.land(r.count(11)));

    /** The sorts and lengths of the trays, which are written full for it. */
    static String trays(RibbonRoads r) {
        StringBuilder all = new StringBuilder();
        for (int tray = 0; tray < 4; tray++) {
            all.append("\ntray ").append(tray);
            for (int i = 0; i <= 40; i++) {
                all.append(' ').append(r.write(tray, i, 0x123456789abcdef0L));
            }
        }
        return all.toString();
    }
}
