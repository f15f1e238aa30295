/** Promises 35 to 40: travellers in the hours to come. */
public final class TravellersTest {
    private static final Check CHECK = new Check("TravellersTest");

    private static void due(String call, long got, long want) {
        CHECK.due(call, got, want);
    }

    private static void nobody() {
        RibbonRoads r = Check.told("land 3 3;drum 0 0 yards 9;");
        due("arrives", r.arrives(0), -2);
        due("arrives", r.arrives(-1), -2);
        due("waits", r.waits(0), -2);
        due("waits", r.waits(-1), -2);
        due("all in", r.allIn(), 0);
        due("busiest", r.busiest(), 0);
        due("free: no cell", r.free(0), -5);
        due("free: no drum", r.free(1), -2);
        due("free: no drum", r.free(-1), -2);
        due("would: no cell", r.wouldArrive(0), -5);
        due("would: no drum", r.wouldArrive(1), -2);
        due("would: no drum", r.wouldArrive(-1), -2);
        r.lay(0, 2, true);
        due("free now", r.free(0), 0);
        due("one cell", r.wouldArrive(0), 1);
    }

    private static void oneRoad() {
        RibbonRoads r = Check.told("land 6 2;drum 0 0 yards 9;");
        Check.layOver(r, 0, "22222");
        for (int t = 0; t < 8; t++) {
            due("would", r.wouldArrive(0), 5 + t);
            due("out", r.setOut(0), t);
        }
        due("there were 8", r.wouldArrive(0), -5);
        for (int t = 0; t < 8; t++) {
            due("arrives " + t, r.arrives(t), 5 + t);
            due("waits " + t, r.waits(t), t);
        }
        due("all in", r.allIn(), 12);
        due("free", r.free(0), 12);
        due("four on five cells", r.busiest(), 4);
        due("nothing went on", r.count(9), 0);
        due("none arrived yet", r.hours(4), 0);
        due("on the cell", r.cell(4, 4), 0);
        due("busiest now", r.busiest(), 0);
        due("one", r.hours(1), 1);
        due("arrived", r.arrives(0), 0);
        due("no more", r.waits(0), 0);
        due("waits to come alone", r.waits(7), 2);
        due("waited", r.traveller(7, 3), 5);
        due("busiest still now", r.busiest(), 0);
        due("the others", r.hours(48), 7);
        due("all in", r.allIn(), 0);
    }

    private static void crossing() {
        RibbonRoads r = Check.told("land 3 3;drum 0 1 yards 9;drum 1 0 yards 9;");
        Check.layOver(r, 0, "22");
        Check.layUnder(r, 1, "33");
        due("0", r.setOut(1), 0);
        due("1", r.setOut(0), 1);
        due("first by numbers", r.arrives(0), 2);
        due("waits for the other ribbon's", r.arrives(1), 3);
        due("once", r.waits(1), 1);
        due("covered", r.free(1), -1);
        due("free with the last", r.free(0), 3);
        r.hours(1);
        due("on the crossing", r.cell(4, 4), 0);
        due("at the drum", r.traveller(1, 1), -1);
        due("went on ahead of the next by numbers", r.hours(1), 1);
        due("on the crossing", r.cell(4, 4), 1);
        // The last cell is held by one who stands there on another ribbon.
        RibbonRoads s = Check.told("land 4 3;drum 0 1 yards 9;drum 1 0 yards 9;");
        Check.layOver(s, 0, "222");
        Check.layOver(s, 1, "3");
        s.setOut(0);
        s.hours(1);
        s.setOut(1);
        due("the held cell is left in the same hour", s.arrives(1), 1);
        s.undo(2);
        due("out again", s.undo(1), 4);
        s.setOut(1);
        s.setOut(0);
        due("who arrives is on none at once", s.hours(1), 1);
        due("so the next goes there", s.cell(5, 4), 1);
    }

    private static void never() {
        RibbonRoads r = Check.told("land 3 3;drum 0 1 yards 9;drum 1 0 yards 9;");
        Check.layOver(r, 0, "2");
        r.setOut(0);
        r.back(0);
        due("no cell to go to", r.arrives(0), -1);
        due("waits 99", r.waits(0), 99);
        due("not by then", r.allIn(), -1);
        due("busiest", r.busiest(), 0);
        Check.layOver(r, 1, "33");
        due("another is free", r.free(1), 0);
        due("another arrives", r.wouldArrive(1), 2);
        r.hours(48);
        due("waited", r.traveller(0, 3), 48);
        due("waits 99 more", r.waits(0), 99);
        // Two who hold each other's next cell wait for ever.
        RibbonRoads s = Check.told("land 4 3;drum 0 0 yards 9;drum 3 0 yards 9;rock 3 2;");
        Check.layOver(s, 0, "3223");
        Check.layOver(s, 1, "34");
        Check.layOver(s, 1, "4");
        Check.layOver(s, 1, "3");
        s.setOut(0);
        s.setOut(1);
        s.hours(2);
        due("head on", s.cell(5, 4), 0);
        due("head on", s.cell(6, 4), 1);
        due("never", s.arrives(0), -1);
        due("never", s.arrives(1), -1);
        due("waits", s.waits(1), 99);
        due("not all", s.allIn(), -1);
        due("behind them", s.wouldArrive(0), -1);
        due("not free", s.free(0), -1);
        due("busiest now", s.busiest(), 0);
        s.undo(1);
        due("busiest to come", s.busiest(), 1);
    }

    private static void longRoad() {
        RibbonRoads r = Check.told("land 6 6;drum 0 0 yards 99;");
        Check.layOver(r, 0, "2222233333444441");
        for (int t = 0; t < 8; t++) {
            r.setOut(0);
        }
        due("all in", r.allIn(), 16 + 7);
        due("the last", r.arrives(7), 23);
        due("busiest", r.busiest(), 8);
        due("would", r.wouldArrive(0), -5);
    }

    public static void main(String[] args) {
        nobody();
        oneRoad();
        crossing();
        never();
        longRoad();
        CHECK.end();
    }
}
