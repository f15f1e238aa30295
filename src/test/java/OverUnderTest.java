/** Promises 29 to 34: over and under. */
public final class OverUnderTest {
    private static final Check CHECK = new Check("OverUnderTest");

    private static void due(String call, long got, long want) {
        CHECK.due(call, got, want);
    }

    /** Three ribbons from the west, three from the north of a 6 by 6 land: each crosses each of the others. */
    private static RibbonRoads grid() {
        RibbonRoads r = Check.told("land 6 6;drum 0 1 yards 99;drum 0 2 yards 99;drum 0 3 yards 99;"
            + "drum 1 0 yards 99;drum 2 0 yards 99;drum 3 0 yards 99;");
        for (int d = 0; d < 3; d++) {
            Check.layOver(r, d, "2222");
        }
        for (int d = 3; d < 6; d++) {
            Check.layOver(r, d, "3333");
        }
        return r;
    }

    private static int at(int row, int column) {
        return (row + 1) * 6 + column - 2;
    }

    private static void noneLies() {
        RibbonRoads r = Check.told("land 3 3;drum 0 0 yards 9;drum 2 2 yards 9;");
        due("above", r.above(0), 0);
        due("ahead", r.ahead(0), 0);
        due("order", r.order(0), -1);
        due("order -1", r.order(-1), -3);
        due("stuck", r.stuck(), 0);
        due("twists", r.twists(), 0);
        due("orders", r.orders(), 1);
        due("no drum", r.above(2), -2);
        due("no drum", r.above(-1), -2);
        due("no drum", r.ahead(2), -2);
        due("no drum", r.ahead(-1), -2);
        Check.layOver(r, 1, "1");
        due("only what lies", r.order(0), 1);
        due("no second", r.order(1), -1);
        due("far", r.order(Integer.MAX_VALUE), -1);
        due("one order", r.orders(), 1);
        Check.layOver(r, 0, "2");
        due("first that can", r.order(0), 0);
        due("then", r.order(1), 1);
        due("two orders", r.orders(), 2);
    }

    private static void layers() {
        RibbonRoads r = grid();
        due("crossings", r.count(4), 9);
        for (int d = 0; d < 3; d++) {
            due("above", r.above(d), 0b111000);
            due("ahead", r.ahead(d), 0b111000);
            due("above", r.above(d + 3), 0);
            due("ahead", r.ahead(d + 3), 0);
        }
        int[] order = {3, 4, 5, 0, 1, 2, -1};
        for (int i = 0; i < order.length; i++) {
            due("order " + i, r.order(i), order[i]);
        }
        due("orders", r.orders(), 36);
        due("stuck", r.stuck(), 0);
        due("twists", r.twists(), 0);
        r.takeIn(3);
        r.takeIn(4);
        r.takeIn(5);
        due("all free", r.orders(), 6);
    }

    private static void knots() {
        RibbonRoads r = grid();
        r.turn(at(0, 3));
        r.turn(at(0, 4));
        // 0 over 3 and 4, 5 over 0; 3, 4, 5 over 1 and 2: nothing runs round yet.
        due("stuck", r.stuck(), 0);
        due("first free", r.order(0), 5);
        due("then", r.order(1), 0);
        due("ahead", r.ahead(1), 0b111001);
        due("above", r.above(1), 0b111000);
        due("orders", r.orders(), 4);
        r.turn(at(2, 5));
        // 2 over 5 over 0 over 3 over 2.
        due("stuck", r.stuck(), 0b111111);
        due("orders", r.orders(), 0);
        due("none", r.order(0), -1);
        due("twists", r.twists(), 1);
        due("it itself, too", r.ahead(2), 0b111101);
        due("1 is over none", r.ahead(1), 0b111101);
        r.turn(at(2, 5));
        due("untied", r.stuck(), 0);
    }

    private static void twoByTwo() {
        // Each crosses the other on four cells: two and two is worse than three and one.
        String text = "land 6 3;drum 0 0 yards 99;drum 0 1 yards 99;";
        for (int mask = 0; mask < 32; mask++) {
            RibbonRoads r = Check.told(text);
            Check.layOver(r, 0, "22222");
            Check.layOver(r, 1, "2");
            r.lay(1, 1, (mask & 1) == 1);
            for (int i = 1; i < 5; i++) {
                r.lay(1, 2, (mask >> i & 1) == 1);
            }
            int over = Integer.bitCount(mask);
            due("crossings", r.count(4), 5);
            due("twists", r.twists(), Math.min(over, 5 - over));
            due("stuck", r.stuck(), over == 0 || over == 5 ? 0 : 3);
            due("orders", r.orders(), over == 0 || over == 5 ? 1 : 0);
            due("ahead", r.ahead(0), over == 0 ? 0 : over == 5 ? 2 : 3);
        }
    }

    private static void travellersAside() {
        RibbonRoads r = grid();
        r.setOut(3);
        due("can't now", r.takeIn(3), -14);
        due("travellers aside", r.order(0), 3);
        due("travellers aside", r.orders(), 36);
        due("travellers aside", r.stuck(), 0);
    }

    public static void main(String[] args) {
        noneLies();
        layers();
        knots();
        twoByTwo();
        travellersAside();
        CHECK.end();
    }
}
