/** Promises 10 to 21: deeds. */
public final class DeedsTest {
    private static final Check CHECK = new Check("DeedsTest");

    private static void due(String call, long got, long want) {
        CHECK.due(call, got, want);
    }

    private static void whyNot() {
        RibbonRoads r = Check.told("land 3 3;rock 1 1;drum 0 0 yards 3;drum 2 2 yards 9;drum 0 2 yards 9;"
            + "takes:1+x*y;may:not y=1 or x=0;");
        due("no drum", r.why(3, 1), 1);
        due("drum -1", r.why(-1, 1), 1);
        due("no turn", r.why(0, 0), 1);
        due("turn 5", r.why(0, 5), 1);
        due("edge north", r.why(0, 1), 2);
        due("edge west", r.why(0, 4), 2);
        due("edge east", r.why(1, 2), 2);
        due("edge south", r.why(1, 3), 2);
        due("may not", r.why(1, 1), 3);
        due("may not is no deed", r.lay(1, 1, true), -13);
        due("can", r.why(1, 4), 0);
        due("yards left", r.lay(1, 4, true), 6);
        due("rock", r.why(1, 1), 2);
        due("a drum", r.why(1, 4), 2);
        due("itself not even its drum", r.why(1, 2), 2);
        due("no such", r.lay(7, 9, true), -11);
        due("edge", r.lay(0, 1, true), -12);
        due("lay", r.lay(0, 2, false), 2);
        due("lay", r.lay(0, 2, false), 1);
        due("itself", r.why(0, 4), 2);
        due("may not before the yards", r.why(0, 3), 3);
        RibbonRoads poor = Check.told("land 3 3;drum 0 0 yards 3;takes:2;");
        due("lay", poor.lay(0, 2, true), 1);
        due("too few yards", poor.why(0, 2), 4);
        due("too few yards", poor.lay(0, 2, true), -14);
        RibbonRoads even = Check.told("land 3 3;drum 0 0 yards 4;takes:2;");
        due("lay", even.lay(0, 2, true), 2);
        due("all yards", even.lay(0, 2, true), 0);
    }

    private static void threeOnACell() {
        RibbonRoads r = Check.told("land 3 3;drum 1 0 yards 9;drum 0 1 yards 9;drum 2 1 yards 9;");
        due("first", r.lay(0, 3, false), 8);
        due("second", r.lay(1, 2, false), 8);
        due("upper", r.cell(4, 2), 0);
        due("lower", r.cell(4, 3), 1);
        due("where two lie", r.why(2, 4), 2);
        due("where two lie", r.lay(2, 4, true), -12);
        due("not over it", r.takeIn(1), -13);
        due("taken in", r.takeIn(0), 9);
        due("only one", r.cell(4, 2), 1);
        due("no lower one", r.cell(4, 3), -1);
        due("over", r.lay(2, 4, true), 8);
        due("upper", r.cell(4, 2), 2);
        due("lower", r.cell(4, 3), 1);
    }

    private static void sixteen() {
        RibbonRoads r = Check.told("land 6 6;drum 0 0 yards 99;");
        Check.layOver(r, 0, "2222234444432222");
        due("16 cells", r.drum(0, 2), 16);
        due("no 17th", r.why(0, 2), 2);
        due("no 17th", r.lay(0, 2, true), -12);
        due("no way on", r.fewest(0, 17), -1);
        due("there already", r.fewest(0, 16), 0);
        due("back", r.back(0), 84);
        due("a 16th", r.why(0, 2), 0);
        due("way of one", r.fewest(0, 16), 1);
        due("none of two", r.fewest(0, 17), -1);
        due("in", r.takeIn(0), 99);
    }

    private static void backAndIn() {
        RibbonRoads r = Check.told("land 4 3;drum 0 0 yards 30;drum 0 2 yards 30;takes:1+wet+x;wet 2;");
        due("back of none", r.back(2), -11);
        due("in of none", r.takeIn(-1), -11);
        due("out of none", r.setOut(6), -11);
        due("back: no cell", r.back(0), -12);
        due("in: no cell", r.takeIn(0), -12);
        due("out: no cell", r.setOut(0), -12);
        due("x 1", r.lay(0, 2, true), 26);
        r.rain(5);
        due("x 2", r.lay(0, 2, true), 18);
        r.rain(0);
        due("south", r.lay(0, 3, true), 15);
        due("yards that lie", r.drum(0, 4), 15);
        due("as that took", r.back(0), 18);
        due("as that took then", r.back(0), 26);
        due("x 2 anew", r.lay(0, 2, true), 23);
        Check.layOver(r, 1, "2");
        Check.layOver(r, 1, "21");
        Check.layUnder(r, 1, "1");
        due("one over the end of 1", r.back(1), -13);
        due("none over the end of 0", r.back(0), 26);
        due("back below", r.back(1), 30 - 2 - 3 - 3);
        due("all in", r.takeIn(1), 30);
        due("all in", r.takeIn(0), 30);
        for (int k = 0; k < 12; k++) {
            due("nothing lies", r.cell(k, 1), 0);
        }
    }

    private static void travellersHold() {
        RibbonRoads r = Check.told("land 5 2;drum 0 0 yards 30;drum 0 1 yards 30;");
        Check.layOver(r, 0, "222");
        due("0", r.setOut(0), 0);
        due("at the drum", r.takeIn(0), -14);
        due("not on the last cell", r.back(0), 28);
        r.hours(1);
        due("on the first of two", r.traveller(0, 1), 0);
        due("none on the last", r.back(0), 29);
        due("on the last", r.back(0), -14);
        due("on it", r.takeIn(0), -14);
        due("another is free", r.takeIn(1), -12);
        due("arrives where it is", r.hours(1), 1);
        due("did not wait", r.traveller(0, 3), 0);
        due("back", r.back(0), 30);
        Check.layOver(r, 0, "2");
        due("1", r.setOut(0), 1);
        due("back from under who is at the drum", r.back(0), 30);
        due("waits", r.hours(2), 0);
        due("waited", r.traveller(1, 3), 2);
        due("not arrived", r.traveller(1, 2), 0);
        due("no cell to take in", r.takeIn(0), -12);
        Check.layOver(r, 0, "22");
        due("goes on", r.hours(2), 1);
        for (int t = 2; t < 8; t++) {
            due("traveller " + t, r.setOut(0), t);
        }
        due("there were 8", r.setOut(0), -13);
        due("count", r.count(6), 8);
        due("on the way", r.count(7), 6);
        due("all on", r.hours(48), 6);
        due("there were 8 still", r.setOut(0), -13);
        due("no cell is told first", r.setOut(1), -12);
        due("in", r.takeIn(0), 30);
    }

    private static void turning() {
        RibbonRoads r = Check.told("land 3 3;drum 1 0 yards 9;drum 0 1 yards 9;");
        due("nothing lies", r.turn(4), -5);
        r.lay(0, 3, true);
        due("one lies", r.turn(4), -5);
        r.lay(1, 2, true);
        due("turned", r.turn(4), 0);
        due("upper", r.cell(4, 2), 0);
        due("lower", r.cell(4, 3), 1);
        due("turned again", r.turn(4), 1);
        due("no cell", r.turn(9), -2);
        due("no cell", r.turn(-1), -2);
        due("undone", r.undo(1), 3);
        due("upper", r.cell(4, 2), 0);
    }

    private static void rainAndHours() {
        RibbonRoads r = Check.told("land 3 3;drum 0 0 yards 9;wet 7;hour 5;");
        due("what it was", r.rain(9), 7);
        due("what it was", r.rain(0), 9);
        due("-1", r.rain(-1), -3);
        due("10", r.rain(10), -3);
        due("the same", r.rain(0), 0);
        due("three calls", r.count(10), 3);
        due("0 hours", r.hours(0), -3);
        due("49 hours", r.hours(49), -3);
        due("48 hours", r.hours(48), 0);
        due("hour", r.count(9), 53);
        due("undo", r.undo(2), 2);
        due("hour", r.count(9), 5);
        due("wet", r.count(8), 0);
        due("undo", r.undo(2), 0);
        due("wet", r.count(8), 7);
    }

    private static void undoing() {
        RibbonRoads r = Check.told("land 6 2;drum 0 0 yards 50;drum 0 1 yards 50;");
        due("0", r.undo(0), -3);
        due("-1", r.undo(-1), -3);
        due("none yet", r.undo(1), -3);
        Check.layOver(r, 0, "22");
        r.setOut(0);
        r.setOut(0);
        r.hours(1);
        due("refused calls are none", r.lay(0, 1, true), -12);
        due("refused calls are none", r.rain(10), -3);
        due("5", r.count(10), 5);
        r.rain(3);
        due("more than can be", r.undo(7), -3);
        due("undone", r.undo(2), 4);
        due("back at the drum", r.traveller(0, 1), -1);
        due("did not wait", r.traveller(1, 3), 0);
        due("undone", r.undo(1), 3);
        due("one traveller", r.count(6), 1);
        due("undone", r.undo(2), 1);
        due("one cell", r.drum(0, 2), 1);
        due("yards", r.drum(0, 1), 49);
        due("nothing lies", r.cell(2, 1), 0);
        for (int i = 0; i < 25; i++) {
            r.rain(i % 10);
        }
        due("10 at most", r.count(10), 10);
        due("11", r.undo(11), -3);
        due("10", r.undo(10), 0);
        due("the eldest are forgotten", r.count(8), 4);
        due("none", r.undo(1), -3);
        due("one cell", r.drum(0, 2), 1);
        r.lay(0, 2, true);
        due("in", r.takeIn(0), 50);
        due("undone", r.undo(1), 1);
        due("two cells", r.lies(0, 1), 2);
        due("lies again", r.cell(2, 2), 0);
    }

    private static void deedsInATray() {
        RibbonRoads r = Check.told("land 3 3;drum 1 0 yards 9;drum 0 1 yards 9;takes:1+wet;hour 7;");
        Check.tray(r, 0, 1, 3, 1002, 1012, -1);
        due("all can be", r.judge(0, 0), -1);
        due("why", r.judge(0, 1), 0);
        due("yards", r.judge(0, 2), 15);
        due("hour", r.judge(0, 3), 8);
        due("nothing was done", r.count(10) + r.drum(0, 2), 0);
        due("all", r.perform(0), 4);
        due("under", r.cell(4, 2), 0);
        due("under", r.cell(4, 3), 1);
        due("one call", r.count(10), 1);
        due("hour", r.count(9), 8);
        due("whole", r.undo(1), 0);
        due("nothing lies", r.cell(4, 1), 0);
        due("hour", r.count(9), 7);
        Check.tray(r, 0, 3, 13, 1012, 8001, 6001, 7000, 9009, 7001, -1);
        due("back where nobody is", r.judge(0, 0), 6);
        due("why: no cell", r.judge(0, 1), 2);
        due("performed", r.perform(0), 6);
        due("wet", r.count(8), 9);
        due("yards", r.drum(0, 1) + r.drum(1, 1), 18);
        due("out", r.count(6), 1);
        long[] wrong = {-2, -1000, 0, 5, 6, 9, 10, 15, 21, 91, 101, 111, 901, 2001, 5011, 5999, 6002, 6006, 6999, 7002,
            7500, 8002, 8999, 9010, 10000, 1L << 32, Long.MIN_VALUE, Long.MAX_VALUE, (1L << 32) + 9001, (1L << 32) - 1};
        for (long v : wrong) {
            Check.tray(r, 1, 3, v);
            due("deed " + v, r.judge(1, 0), 0);
            due("why " + v, r.judge(1, 1), 1);
            due("performed " + v, r.perform(1), 0);
        }
        due("no call that did some", r.count(10), 1);
        Check.tray(r, 1, 0);
        due("empty", r.judge(1, 0), -1);
        due("empty", r.judge(1, 1), 0);
        due("empty", r.judge(1, 2), 18);
        due("empty", r.judge(1, 3), 7);
        due("empty", r.perform(1), 0);
        due("no such tray", r.judge(4, 0), -2);
        due("no such tray", r.judge(-1, 0), -2);
        due("no such what", r.judge(3, 4), -2);
        due("no such what", r.judge(3, -1), -2);
        due("missing", r.judge(3, 0), -6);
        due("no such tray", r.perform(4), -2);
        due("missing", r.perform(3), -6);
    }

    private static void whyDeeds() {
        RibbonRoads r = Check.told("land 3 3;rock 2 2;drum 1 0 yards 3;drum 0 1 yards 9;may:not y=2 or x=1;");
        long[][] trays = {{1}, {13, 13, 14}, {13, 13, 13}, {6000}, {7001}, {8000}, {3, 1012, 6000}, {3, 1012, 7000},
            {3, 8000, 7000}, {3, 13, 8000, -1, 6000, 6000}, {3, 8000, 8000, 8000, 8000, 8000, 8000, 8000, 8000, 8000},
            {13, 9009, 13, 14}};
        int[] places = {0, 2, 2, 0, 0, 0, 2, 2, 2, 5, 9, 3};
        int[] whys = {2, 3, 2, 2, 2, 2, 3, 3, 4, 4, 3, 3};
        for (int i = 0; i < trays.length; i++) {
            Check.tray(r, 0, 1, trays[i]);
            due("place of " + i, r.judge(0, 0), places[i]);
            due("why of " + i, r.judge(0, 1), whys[i]);
        }
        Check.tray(r, 0, 1, 12, 13, 4, 1013);
        due("yards at the fault", r.judge(0, 2), 3 - 3 + 9);
        Check.tray(r, 0, 0, 3, -1, 255);
        due("8 bits: two hours", r.judge(0, 3), 2);
        due("8 bits: done", r.judge(0, 0), -1);
        Check.tray(r, 0, 0, 1012);
        due("8 bits are cut", r.judge(0, 1), 1);
    }

    /** Seasons drawn by hand: the same draws, deed by deed. */
    private static void seasons() {
        String text = "land 4 4;drum 1 1 yards 40;drum 2 2 yards 40;drum 0 3 yards 3;takes:1+wet;";
        for (int seed = -300; seed < 300; seed++) {
            int times = 1 + Math.floorMod(seed, 40);
            RibbonRoads r = Check.told(text);
            RibbonRoads other = Check.told(text);
            int x = seed * 7919;
            int done = 0;
            for (int i = 0; i < times; i++) {
                x = 1103515245 * x + 12345;
                int sort = (x >>> 16) % 6;
                int answer = 0;
                if (sort == 3) {
                    answer = other.hours(1);
                } else {
                    x = 1103515245 * x + 12345;
                    int d = (x >>> 16) % 3;
                    if (sort == 4) {
                        answer = other.setOut(d);
                    } else if (sort == 5) {
                        answer = other.takeIn(d);
                    } else {
                        x = 1103515245 * x + 12345;
                        int turn = 1 + (x >>> 16) % 4;
                        x = 1103515245 * x + 12345;
                        answer = other.lay(d, turn, (x >>> 16) % 2 == 1);
                    }
                }
                done += answer >= 0 ? 1 : 0;
            }
            due("season " + seed, r.season(seed * 7919, times), done);
            for (int k = 0; k < 16; k++) {
                for (int what = 0; what < 5; what++) {
                    due("cell", r.cell(k, what), other.cell(k, what));
                }
            }
            for (int d = 0; d < 3; d++) {
                due("yards", r.drum(d, 1), other.drum(d, 1));
            }
            due("travellers", r.count(6), other.count(6));
            due("on the way", r.count(7), other.count(7));
            due("hour", r.count(9), other.count(9));
            due("one call", r.count(10), done > 0 ? 1 : 0);
            if (done > 0) {
                due("whole", r.undo(1), 0);
                due("nothing lies", r.count(5), 0);
                due("hour", r.count(9), 0);
            }
        }
        RibbonRoads r = Check.told(text);
        due("0 times", r.season(1, 0), -3);
        due("41 times", r.season(1, 41), -3);
        RibbonRoads none = new RibbonRoads();
        due("times first", none.season(1, 0), -3);
        due("no drums", none.season(1, 40), -5);
    }

    public static void main(String[] args) {
        whyNot();
        threeOnACell();
        sixteen();
        backAndIn();
        travellersHold();
        turning();
        rainAndHours();
        undoing();
        deedsInATray();
        whyDeeds();
        seasons();
        CHECK.end();
    }
}
