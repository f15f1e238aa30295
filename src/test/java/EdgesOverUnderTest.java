/** Boundary cases of promises 29 to 34: over and under. */
public final class EdgesOverUnderTest {
    private static final Edges EDGES = new Edges("EdgesOverUnderTest");
    private static final int[] NO_DRUMS = {-1, 3, 6, Integer.MIN_VALUE, Integer.MAX_VALUE};

    private static void due(int promise, String words, long got, long want) {
        EDGES.due(promise, words, got, want);
    }

    /** Ribbons 0 and 1 lie each over the other; 2 lies on no cell. */
    private static RibbonRoads begun() {
        RibbonRoads r = Check.told("land 4 3;drum 0 1 yards 9;drum 1 0 yards 9;drum 3 2 yards 9;hour 2;");
        r.image(0);
        Check.layOver(r, 0, "22");
        Check.layOver(r, 1, "3");
        Check.layOver(r, 1, "32");
        Check.layUnder(r, 1, "1");
        Check.tray(r, 1, 1, 2003, -1);
        r.feed(0x6c616e64, 0x20322032, 0x3b202020, 0x20202020, 0x20202020);
        return r;
    }

    /** Six drums along the west edge; none lies anywhere. */
    private static RibbonRoads six() {
        return Check.told("land 6 6;drum 0 0 yards 99;drum 0 1 yards 99;drum 0 2 yards 99;drum 0 3 yards 99;drum 0 4 yards 99;drum 0 5 yards 99;");
    }

    /** Each ribbon lies on a cell of its own row, the next on that, too: over it or under it. */
    private static RibbonRoads chain(boolean over) {
        RibbonRoads r = six();
        for (int d = 0; d < 6; d++) {
            Check.layOver(r, d, "2");
            if (d > 0) {
                r.lay(d, 1, over);
            }
        }
        return r;
    }

    private static void refusals() {
        for (int d : NO_DRUMS) {
            EDGES.refused(29, "-2: no such DRUM " + d, EdgesOverUnderTest::begun, r -> r.above(d), -2);
            EDGES.refused(30, "-2: no such DRUM " + d, EdgesOverUnderTest::begun, r -> r.ahead(d), -2);
        }
        for (int i : new int[] {-1, Integer.MIN_VALUE}) {
            EDGES.refused(31, "-3: i is below 0", EdgesOverUnderTest::begun, r -> r.order(i), -3);
            due(31, "-3, though nothing lies", six().order(i), -3);
            due(31, "-3, though there are no DRUMS", new RibbonRoads().order(i), -3);
        }
        EDGES.refused(29, "a question changes nothing", EdgesOverUnderTest::begun, r -> r.above(0), 2);
        EDGES.refused(30, "a question changes nothing", EdgesOverUnderTest::begun, r -> r.ahead(0), 3);
        EDGES.refused(31, "a question changes nothing", EdgesOverUnderTest::begun, r -> r.order(0), -1);
        EDGES.refused(32, "a question changes nothing", EdgesOverUnderTest::begun, r -> r.stuck(), 3);
        EDGES.refused(33, "a question changes nothing", EdgesOverUnderTest::begun, r -> r.twists(), 1);
        EDGES.refused(34, "a question changes nothing", EdgesOverUnderTest::begun, r -> r.orders(), 0);
    }

    /** Nothing lies: there is none to be taken in. */
    private static void nothingLies() {
        for (RibbonRoads r : new RibbonRoads[] {new RibbonRoads(), six(), Check.told("land 2 2;rock 0 0;")}) {
            due(31, "NONE: no more can", r.order(0), -1);
            due(31, "NONE: far", r.order(Integer.MAX_VALUE), -1);
            due(32, "nothing is STUCK", r.stuck(), 0);
            due(33, "nothing to be TURNED", r.twists(), 0);
            due(34, "one order of none", r.orders(), 1);
        }
        for (int d = 0; d < 6; d++) {
            due(29, "none lies over it", six().above(d), 0);
            due(30, "none ahead of it", six().ahead(d), 0);
        }
    }

    /** "of RIBBONS that lie on some CELL"; "as bits": the sixth drum, all six. */
    private static void free() {
        int orders = 1;
        RibbonRoads r = six();
        for (int d = 5; d >= 0; d--) {
            Check.layOver(r, d, "2");
            orders *= 6 - d;
            due(34, "orders of free ones", r.orders(), orders);
            for (int i = 0; i < 6 - d; i++) {
                due(31, "each time the first that can be", r.order(i), d + i);
            }
            due(31, "no more can", r.order(6 - d), -1);
            due(31, "far", r.order(Integer.MAX_VALUE), -1);
            due(32, "none is STUCK", r.stuck(), 0);
            due(33, "none to be TURNED", r.twists(), 0);
        }
        for (int d = 0; d < 6; d++) {
            r.takeIn(d);
            due(31, "what was TAKEN IN lies no more", r.order(0), d < 5 ? d + 1 : -1);
            due(31, "so many are left", r.order(5 - d), -1);
        }
        due(34, "nothing lies: one order", r.orders(), 1);
    }

    private static void chains() {
        RibbonRoads r = chain(true);
        for (int d = 0; d < 6; d++) {
            due(29, "the next lies over it", r.above(d), d < 5 ? 1 << d + 1 : 0);
            due(30, "those over one of these, and so on", r.ahead(d), 63 & ~((1 << d + 1) - 1));
            due(31, "from the last on", r.order(d), 5 - d);
        }
        due(31, "no seventh", r.order(6), -1);
        due(34, "one order", r.orders(), 1);
        due(32, "none is STUCK", r.stuck(), 0);
        due(33, "none to be TURNED", r.twists(), 0);
        r = chain(false);
        for (int d = 0; d < 6; d++) {
            due(29, "it lies over the next", r.above(d), d > 0 ? 1 << d - 1 : 0);
            due(30, "those over one of these, and so on", r.ahead(d), (1 << d) - 1);
            due(31, "from the first on", r.order(d), d);
        }
        due(34, "one order", r.orders(), 1);
    }

    /** "(it itself, too, if it is one of these)"; "STUCK: what never can be"; "NONE: no more can". */
    private static void knots() {
        // 0 over 1 over 0 on the rows; 2 lies over 1, 3 lies over none and under none, 4 lies under 0.
        RibbonRoads r = Check.told("land 6 5;drum 0 1 yards 99;drum 0 2 yards 99;drum 3 0 yards 99;drum 5 4 yards 99;drum 1 0 yards 99;");
        Check.layOver(r, 0, "222");
        Check.layOver(r, 1, "22");
        Check.layOver(r, 1, "1");
        Check.layUnder(r, 1, "2");
        due(34, "no order of all", r.orders(), 0);
        due(30, "it itself, too", r.ahead(0), 0b00011);
        due(30, "it itself, too", r.ahead(1), 0b00011);
        Check.layOver(r, 3, "1");
        Check.layUnder(r, 4, "3");
        due(29, "the lower one", r.above(4), 0b00001);
        due(30, "under a knot: it itself not", r.ahead(4), 0b00011);
        due(32, "what lies under a knot is STUCK, too", r.stuck(), 0b10011);
        due(31, "what can be", r.order(0), 3);
        due(31, "no more can", r.order(1), -1);
        due(31, "no more can, far", r.order(6), -1);
        due(33, "one of two to be TURNED", r.twists(), 1);
        due(34, "no order of all", r.orders(), 0);
        due(29, "none over it", r.above(3), 0);
        due(29, "none lies: above", r.above(2), 0);
        due(30, "none lies: ahead", r.ahead(2), 0);
        r.turn(8);
        due(32, "untied", r.stuck(), 0);
        due(33, "untied", r.twists(), 0);
        due(34, "untied: 0, 1 in one order, 4 behind 0, 3 anywhere", r.orders() > 0 ? 1 : 0, 1);
        due(30, "untied: not itself", r.ahead(0) & 1, 0);
    }

    /** Three that lie each over the next: one of three to be turned; each pair of them alone is no knot. */
    private static void ringOfThree() {
        RibbonRoads r = Check.told("land 5 5;drum 0 1 yards 9;drum 1 0 yards 9;drum 0 3 yards 9;");
        Check.layOver(r, 0, "22");
        Check.layOver(r, 1, "333");
        Check.layOver(r, 2, "221");
        Check.layUnder(r, 2, "1");
        // Cell 6: 1 over 0; cell 16: 2 over 1; cell 7: 0 over 2.
        due(29, "over 0", r.above(0), 2);
        due(29, "over 1", r.above(1), 4);
        due(29, "over 2", r.above(2), 1);
        for (int d = 0; d < 3; d++) {
            due(30, "all three, it itself, too", r.ahead(d), 7);
        }
        due(32, "all are STUCK", r.stuck(), 7);
        due(31, "none can", r.order(0), -1);
        due(33, "one of three", r.twists(), 1);
        due(34, "no order", r.orders(), 0);
        for (int k : new int[] {6, 16, 7}) {
            r.turn(k);
            due(32, "one TURNED: none is STUCK", r.stuck(), 0);
            due(33, "one TURNED: no more", r.twists(), 0);
            due(34, "one TURNED: one order", r.orders(), 1);
            r.undo(1);
        }
    }

    /** "TRAVELLERS aside". */
    private static void travellersAside() {
        RibbonRoads r = six();
        Check.layOver(r, 0, "22");
        Check.layOver(r, 5, "22");
        r.setOut(0);
        r.setOut(5);
        r.hours(1);
        due(13, "it can't be TAKEN IN now", r.takeIn(0), -14);
        due(31, "TRAVELLERS aside", r.order(0), 0);
        due(31, "TRAVELLERS aside", r.order(1), 5);
        due(32, "TRAVELLERS aside", r.stuck(), 0);
        due(34, "TRAVELLERS aside", r.orders(), 2);
    }

    public static void main(String[] args) {
        refusals();
        nothingLies();
        free();
        chains();
        knots();
        ringOfThree();
        travellersAside();
        EDGES.end(29, 34);
    }
}
