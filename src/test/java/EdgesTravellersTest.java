import java.util.function.Supplier;

/** Boundary cases of promises 35 to 40, and of what an hour is: travellers in the hours to come. */
public final class EdgesTravellersTest {
    private static final Edges EDGES = new Edges("EdgesTravellersTest");
    private static final int[] NO_DRUMS = {-1, 3, 6, Integer.MIN_VALUE, Integer.MAX_VALUE};
    private static final int[] NO_TRAVELLERS = {-1, 2, 8, Integer.MIN_VALUE, Integer.MAX_VALUE};

    private static void due(int promise, String words, long got, long want) {
        EDGES.due(promise, words, got, want);
    }

    /** Traveller 0 is on the first cell of ribbon 0, traveller 1 at the drum of 1; ribbon 2 lies on no cell. */
    private static RibbonRoads begun() {
        RibbonRoads r = Check.told("land 4 3;drum 0 1 yards 9;drum 1 0 yards 9;drum 3 2 yards 9;hour 2;");
        r.image(0);
        Check.layOver(r, 0, "222");
        Check.layUnder(r, 1, "33");
        r.setOut(0);
        r.hours(1);
        r.setOut(1);
        Check.tray(r, 1, 1, 2003, -1);
        r.feed(0x6c616e64, 0x20322032, 0x3b202020, 0x20202020, 0x20202020);
        return r;
    }

    private static RibbonRoads eight(String turns) {
        RibbonRoads r = Check.told("land 6 6;drum 0 0 yards 99;drum 0 5 yards 9;");
        Check.layOver(r, 0, turns);
        for (int t = 0; t < 8; t++) {
            r.setOut(0);
        }
        return r;
    }

    /** A traveller at the drum of a ribbon that lies on no cell any more: it never arrives. */
    private static RibbonRoads waiting() {
        RibbonRoads r = Check.told("land 4 3;drum 0 1 yards 9;drum 1 0 yards 9;hour 2;");
        Check.layOver(r, 0, "2");
        r.setOut(0);
        r.back(0);
        return r;
    }

    private static void refusals() {
        for (int t : NO_TRAVELLERS) {
            EDGES.refused(35, "-2: no such TRAVELLER " + t, EdgesTravellersTest::begun, r -> r.arrives(t), -2);
            EDGES.refused(36, "-2: no such TRAVELLER " + t, EdgesTravellersTest::begun, r -> r.waits(t), -2);
        }
        for (int d : NO_DRUMS) {
            EDGES.refused(38, "-2: no such DRUM " + d, EdgesTravellersTest::begun, r -> r.free(d), -2);
            EDGES.refused(40, "-2: no such DRUM " + d, EdgesTravellersTest::begun, r -> r.wouldArrive(d), -2);
        }
        EDGES.refused(38, "-5: it lies on no CELL", EdgesTravellersTest::begun, r -> r.free(2), -5);
        EDGES.refused(40, "-5: it can't set out: it lies on no CELL", EdgesTravellersTest::begun, r -> r.wouldArrive(2), -5);
        Supplier<RibbonRoads> full = () -> {
            RibbonRoads r = Check.told("land 3 2;drum 0 0 yards 9;drum 0 1 yards 9;");
            Check.layOver(r, 0, "2");
            for (int t = 0; t < 8; t++) {
                r.setOut(0);
            }
            return r;
        };
        EDGES.refused(40, "-5: it can't set out: there were 8", full, r -> r.wouldArrive(0), -5);
        EDGES.refused(40, "-5: neither", full, r -> r.wouldArrive(1), -5);
        due(40, "-2 ahead of -5", full.get().wouldArrive(2), -2);
        due(35, "the eighth", full.get().arrives(7), 1);
        due(35, "no ninth", full.get().arrives(8), -2);
        due(36, "no ninth", full.get().waits(8), -2);
        EDGES.refused(35, "a question changes nothing", EdgesTravellersTest::begun, r -> r.arrives(0), 2);
        EDGES.refused(36, "a question changes nothing", EdgesTravellersTest::begun, r -> r.waits(1), 0);
        EDGES.refused(37, "a question changes nothing", EdgesTravellersTest::begun, r -> r.allIn(), 2);
        EDGES.refused(38, "a question changes nothing", EdgesTravellersTest::begun, r -> r.free(0), 2);
        EDGES.refused(39, "a question changes nothing", EdgesTravellersTest::begun, r -> r.busiest(), 1);
        EDGES.refused(40, "a question changes nothing", EdgesTravellersTest::begun, r -> r.wouldArrive(0), 4);
    }

    /** "HOURS to come ... 99 at most"; "NONE: not by then"; "(99 HOURS at most)". */
    private static void never() {
        EDGES.refused(35, "NONE: not by then", EdgesTravellersTest::waiting, r -> r.arrives(0), -1);
        EDGES.refused(36, "99 HOURS at most", EdgesTravellersTest::waiting, r -> r.waits(0), 99);
        EDGES.refused(37, "NONE: not by then", EdgesTravellersTest::waiting, r -> r.allIn(), -1);
        EDGES.refused(39, "nobody is on a CELL: now", EdgesTravellersTest::waiting, r -> r.busiest(), 0);
        RibbonRoads r = waiting();
        due(17, "it neither went nor ARRIVED", r.hours(48), 0);
        due(8, "it WAITED", r.traveller(0, 3), 48);
        due(36, "99 more, those that were aside", r.waits(0), 99);
        Check.layOver(r, 0, "2");
        due(35, "LAID again: the next HOUR", r.arrives(0), 1);
        due(36, "LAID again: no more", r.waits(0), 0);
        due(38, "free with it", r.free(0), 1);
        due(37, "all with it", r.allIn(), 1);
        // Head on: each holds the next cell of the other.
        r = Check.told("land 4 3;drum 0 0 yards 9;drum 3 0 yards 9;");
        Check.layOver(r, 0, "3223");
        Check.layOver(r, 1, "3443");
        r.setOut(0);
        r.setOut(1);
        due(35, "head on", r.arrives(0), -1);
        due(35, "head on", r.arrives(1), -1);
        due(36, "two HOURS ahead of it", r.waits(0), 97);
        due(36, "two HOURS ahead of it", r.waits(1), 97);
        due(37, "head on", r.allIn(), -1);
        due(38, "it lies over none, but nobody leaves it: NONE", r.free(1), -1);
        due(38, "it lies under one", r.free(0), -1);
        due(39, "two on CELLS, the first such HOUR", r.busiest(), 1);
        due(40, "behind them", r.wouldArrive(0), -1);
    }

    /** "In how many HOURS to come (0 to 99) a TRAVELLER has ARRIVED": 0, 1, 16; "0: all have, there are none". */
    private static void arrivals() {
        RibbonRoads r = new RibbonRoads();
        due(37, "there are none: 0", r.allIn(), 0);
        due(39, "there are none: now", r.busiest(), 0);
        String turns = "2222234444432222";
        for (int cells = 1; cells <= 16; cells++) {
            r = Check.told("land 6 6;drum 0 0 yards 99;");
            Check.layOver(r, 0, turns.substring(0, cells));
            due(38, "nobody is on it: 0", r.free(0), 0);
            due(40, "so many CELLS, so many HOURS", r.wouldArrive(0), cells);
            due(40, "nobody has set out by that", r.count(6), 0);
            r.setOut(0);
            due(35, "so many CELLS, so many HOURS", r.arrives(0), cells);
            due(36, "never", r.waits(0), 0);
            due(37, "all", r.allIn(), cells);
            due(38, "free with it", r.free(0), cells);
            due(39, "the first HOUR on a CELL, 0 if it ARRIVES at once", r.busiest(), cells == 1 ? 0 : 1);
            due(17, "not in one HOUR less", cells == 1 ? 0 : r.hours(cells - 1), 0);
            due(35, "one HOUR more", r.arrives(0), 1);
            due(17, "in that HOUR", r.hours(1), 1);
            due(35, "ARRIVED: 0", r.arrives(0), 0);
            due(36, "ARRIVED: 0", r.waits(0), 0);
            due(37, "all have: 0", r.allIn(), 0);
            due(38, "free: 0", r.free(0), 0);
            due(39, "nobody on CELLS: now", r.busiest(), 0);
        }
        r = eight(turns);
        for (int t = 0; t < 8; t++) {
            due(35, "one behind the other", r.arrives(t), 16 + t);
            due(36, "each waits for those ahead", r.waits(t), t);
        }
        due(37, "the eighth", r.allIn(), 23);
        due(38, "the eighth", r.free(0), 23);
        due(39, "all eight on CELLS, the first such HOUR", r.busiest(), 8);
        r = eight("22");
        due(39, "one on a CELL, the first such HOUR", r.busiest(), 1);
        r = eight("2");
        due(39, "each ARRIVES at once: now", r.busiest(), 0);
        due(37, "the CELL is left at once: all in the first HOUR", r.allIn(), 1);
    }

    /** "HOURS ... one behind the other by numbers"; "no other TRAVELLER is on that CELL (on whichever RIBBON)"; "at once". */
    private static void hours() {
        // The one with the lesser number stands behind: the cell ahead of it is left only later in the hour.
        RibbonRoads r = Check.told("land 5 3;drum 0 1 yards 9;drum 1 0 yards 9;");
        Check.layOver(r, 0, "2222");
        Check.layUnder(r, 1, "33");
        r.setOut(1);
        r.setOut(0);
        r.hours(1);
        due(8, "the lesser number goes first", r.traveller(0, 1), 0);
        due(8, "the other one waits for it", r.traveller(1, 1), -1);
        due(8, "it WAITED", r.traveller(1, 3), 1);
        r.hours(1);
        due(8, "the lesser number ARRIVED", r.traveller(0, 2), 1);
        due(8, "so the other goes to the CELL that it left in that HOUR", r.traveller(1, 1), 0);
        due(8, "it WAITED but once", r.traveller(1, 3), 1);
        r = Check.told("land 5 3;drum 1 0 yards 9;drum 0 1 yards 9;");
        Check.layOver(r, 1, "2222");
        Check.layUnder(r, 0, "33");
        r.setOut(1);
        r.hours(1);
        r.undo(2);
        r.setOut(0);
        r.setOut(1);
        due(36, "by numbers, not by DRUMS", r.waits(0), 0);
        due(36, "by numbers, not by DRUMS", r.waits(1), 1);
        // 1 stands on the crossing ahead of 0, and leaves it behind 0's turn.
        r = Check.told("land 5 3;drum 0 1 yards 9;drum 2 0 yards 9;");
        Check.layOver(r, 0, "222");
        Check.layUnder(r, 1, "33");
        r.setOut(0);
        r.setOut(1);
        r.hours(1);
        due(5, "0 is on its first CELL", r.cell(6, 4), 0);
        due(5, "1 is on the crossing", r.cell(7, 4), 1);
        due(17, "0 can't go there yet, 1 leaves it", r.hours(1), 1);
        due(8, "0 WAITED", r.traveller(0, 3), 1);
        due(8, "0 is where it was", r.traveller(0, 1), 0);
        lastCell();
    }

    /** "if it is on the last CELL of its RIBBON now, it has ARRIVED, and is on none any more at once". */
    private static void lastCell() {
        RibbonRoads r = Check.told("land 5 3;drum 0 1 yards 9;");
        Check.layOver(r, 0, "222");
        r.setOut(0);
        r.hours(1);
        r.back(0);
        r.back(0);
        due(8, "on the last CELL now, not ARRIVED yet", r.traveller(0, 2), 0);
        due(12, "4: a TRAVELLER is there", r.back(0), -14);
        due(38, "in one HOUR", r.free(0), 1);
        due(17, "it ARRIVED, though it didn't go", r.hours(1), 1);
        due(8, "it has not WAITED", r.traveller(0, 3), 0);
        due(12, "nobody is there any more", r.back(0), 9);
        r = Check.told("land 5 3;drum 0 1 yards 9;");
        Check.layOver(r, 0, "2");
        r.setOut(0);
        r.hours(1);
        Check.layOver(r, 0, "2");
        due(17, "who ARRIVED doesn't go on", r.hours(2), 0);
        due(8, "who ARRIVED doesn't WAIT", r.traveller(0, 3), 0);
        due(8, "who ARRIVED stays so", r.traveller(0, 2), 1);
        due(38, "who ARRIVED holds nothing", r.free(0), 0);
        r = Check.told("land 5 3;drum 0 1 yards 9;");
        Check.layOver(r, 0, "22");
        r.setOut(0);
        r.hours(1);
        Check.layOver(r, 0, "2");
        due(35, "a longer RIBBON, a later HOUR", r.arrives(0), 2);
    }

    /** "can be TAKEN IN (nothing else being)": what lies over it stays there. */
    private static void covered() {
        RibbonRoads r = begun();
        due(38, "none lies over it: with the TRAVELLER", r.free(0), 2);
        due(38, "one lies over it: NONE", r.free(1), -1);
        r.turn(5);
        due(38, "TURNED: NONE", r.free(0), -1);
        due(38, "TURNED: with its TRAVELLER", r.free(1), 2);
        r.hours(48);
        due(38, "nobody is on it: now", r.free(1), 0);
    }

    /** "at whose end most TRAVELLERS are on CELLS, the first": at a drum, arrived, nobody is on one. */
    private static void busiest() {
        RibbonRoads r = Check.told("land 6 3;drum 0 0 yards 9;drum 0 2 yards 9;");
        Check.layOver(r, 0, "222");
        Check.layOver(r, 1, "22222");
        r.setOut(0);
        r.setOut(1);
        due(39, "both from the first HOUR on", r.busiest(), 1);
        r.hours(1);
        due(39, "now", r.busiest(), 0);
        r.hours(1);
        due(39, "now, though it ends soon", r.busiest(), 0);
        r.hours(1);
        due(39, "one, now", r.busiest(), 0);
        r.setOut(0);
        due(39, "one at a DRUM: two in an HOUR", r.busiest(), 1);
        r.hours(2);
        due(39, "one on a CELL, one ARRIVED", r.busiest(), 0);
        r = Check.told("land 6 3;drum 0 0 yards 9;drum 0 2 yards 9;");
        Check.layOver(r, 0, "22");
        Check.layOver(r, 1, "22");
        r.setOut(0);
        r.setOut(0);
        r.setOut(0);
        r.setOut(1);
        due(39, "two in the first HOUR, one in later ones", r.busiest(), 1);
    }

    public static void main(String[] args) {
        refusals();
        never();
        arrivals();
        hours();
        covered();
        busiest();
        EDGES.end(35, 40);
    }
}
