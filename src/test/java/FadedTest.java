/** Promises 41 to 43: faded ribbons. */
public final class FadedTest {
    private static final Check CHECK = new Check("FadedTest");

    private static void due(String call, long got, long want) {
        CHECK.due(call, got, want);
    }

    private static void codes() {
        RibbonRoads r = Check.told("land 3 2;drum 0 0 yards 9;");
        long[][] calls = {{4, 0, -2}, {-1, 0, -2}, {0, 1, -2}, {0, -1, -2}, {0, 0, -6}, {4, 1, -2}};
        for (long[] c : calls) {
            due("faded", r.faded((int) c[0], (int) c[1]), c[2]);
            due("manyFaded", r.manyFaded((int) c[0], (int) c[1]), c[2]);
            due("look", r.look((int) c[0], (int) c[1]), c[2]);
        }
        long[][] trays = {{}, {1, 1, 1, 1, 1, 1, 1}, {6, 1, 1, 1, 1, 1, 1}, {6}, {-1}, {1, 1, 6}, {1L << 32}, {1, -1}};
        long[] codes = {-4, -4, -4, -3, -3, -3, -3, -3};
        for (int i = 0; i < trays.length; i++) {
            Check.tray(r, 0, 3, trays[i]);
            due("faded by " + i, r.faded(0, 0), codes[i]);
            due("manyFaded by " + i, r.manyFaded(0, 0), codes[i]);
            due("look by " + i, r.look(0, 0), codes[i]);
            due("the drum is told first", r.faded(0, 1), -2);
        }
        Check.tray(r, 0, 0, 1, 1, 1, 2, 2, 1);
        due("six", r.faded(0, 0), Check.bits(2, 5));
    }

    private static void plain() {
        // Short ways go east first: those to the cells of column x come along row 0, then down.
        RibbonRoads r = Check.told("land 4 4;drum 0 0 yards 0;");
        Check.tray(r, 0, 0, 1);
        due("all but column 0", r.faded(0, 0), 0xeeee);
        due("12", r.manyFaded(0, 0), 12);
        due("by 2 come 8 of 12, by 3 4, by 5 3: the first of 4 and 4", r.look(0, 0), 2);
        Check.tray(r, 0, 0, 2, 10);
        due("column 2 from row 2 on", r.faded(0, 0), Check.bits(10, 14));
        due("half of two", r.look(0, 0), 14);
        Check.tray(r, 0, 0, 14);
        due("its last cell counts", r.faded(0, 0), Check.bits(14));
        due("one alone: none is nearer to half", r.look(0, 0), 0);
        Check.tray(r, 0, 0, 0);
        due("where it ends now counts not", r.faded(0, 0), 0);
        due("none", r.manyFaded(0, 0), 0);
        due("none", r.look(0, 0), -1);
        Check.tray(r, 0, 0, 4, 1);
        due("no way by both", r.faded(0, 0), 0);
        Check.tray(r, 0, 0, 4);
        due("column 0", r.faded(0, 0), Check.bits(4, 8, 12));
        due("by 8 come 2 of 3", r.look(0, 0), 8);
    }

    private static void rounded() {
        RibbonRoads r = Check.told("land 4 3;rock 1 0;rock 1 1;drum 0 0 yards 3;takes:9;");
        Check.tray(r, 1, 3, 9);
        due("yards aside", r.faded(1, 0), Check.bits(9, 10, 11, 6, 7, 2, 3));
        due("yards aside", r.manyFaded(1, 0), 7);
        due("by 10 come 6, by 6 4, by 2 2", r.look(1, 0), 6);
        Check.tray(r, 1, 3, 1);
        due("a rock", r.faded(1, 0), 0);
        r = Check.told("land 4 3;rock 1 0;rock 1 1;drum 0 0 yards 30;");
        Check.layOver(r, 0, "33");
        Check.tray(r, 1, 3, 9, 6);
        due("from where it ends", r.faded(1, 0), Check.bits(6, 7, 2, 3));
        Check.tray(r, 1, 3, 4);
        due("where it lies", r.faded(1, 0), 0);
        Check.tray(r, 1, 3, 8);
        due("where it ends", r.faded(1, 0), 0);
    }

    public static void main(String[] args) {
        codes();
        plain();
        rounded();
        CHECK.end();
    }
}
