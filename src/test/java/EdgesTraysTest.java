import java.util.function.Supplier;

/** Boundary cases of promises 44 to 49: trays, images, counts. */
public final class EdgesTraysTest {
    private static final Edges EDGES = new Edges("EdgesTraysTest");
    private static final int[] NO_TRAYS = {-1, 4, Integer.MIN_VALUE, Integer.MAX_VALUE};
    private static final int[] NO_IMAGES = {-1, 2, Integer.MIN_VALUE, Integer.MAX_VALUE};

    private static void due(int promise, String words, long got, long want) {
        EDGES.due(promise, words, got, want);
    }

    /** 4 by 3, cell 0 shut off by rocks; tray 0 empty, tray 1 of two 16 bits, tray 2 of six 8 bits, tray 3 missing; image 0 made. */
    private static RibbonRoads begun() {
        RibbonRoads r = Check.told("land 4 3;rock 1 0;rock 0 1;drum 1 2 yards 9;drum 3 2 yards 9;takes:1+wet;wet 1;hour 6;");
        Check.layOver(r, 0, "1");
        r.image(0);
        Check.layOver(r, 0, "2");
        r.setOut(0);
        r.hours(1);
        r.numbers(0, 3, 0);
        Check.tray(r, 1, 1, 1001, -1);
        Check.tray(r, 2, 0, 6, 6, 6, 6, 6, 6);
        r.feed(0x6c616e64, 0x20322032, 0x3b202020, 0x20202020, 0x20202020);
        return r;
    }

    /** Promise 44: "-2: no such TRAY, sort; -3, and the TRAY stays: n is below 0 or above 40". */
    private static void numbers() {
        for (int tray : NO_TRAYS) {
            EDGES.refused(44, "-2: no such TRAY " + tray, EdgesTraysTest::begun, r -> r.numbers(tray, 0, 1), -2);
            EDGES.refused(44, "-2 ahead of -3: the TRAY", EdgesTraysTest::begun, r -> r.numbers(tray, 0, 41), -2);
        }
        for (int sort : new int[] {-1, 4, Integer.MIN_VALUE, Integer.MAX_VALUE}) {
            EDGES.refused(44, "-2: no such sort " + sort, EdgesTraysTest::begun, r -> r.numbers(1, sort, 1), -2);
            EDGES.refused(44, "-2 ahead of -3: the sort", EdgesTraysTest::begun, r -> r.numbers(1, sort, -1), -2);
        }
        for (int n : new int[] {-1, 41, Integer.MIN_VALUE, Integer.MAX_VALUE}) {
            for (int tray = 0; tray < 4; tray++) {
                int which = tray;
                EDGES.refused(44, "-3, and the TRAY stays: " + n, EdgesTraysTest::begun, r -> r.numbers(which, 2, n), -3);
            }
        }
        for (int tray = 0; tray < 4; tray++) {
            for (int sort = 0; sort < 4; sort++) {
                for (int n : new int[] {0, 1, 39, 40}) {
                    RibbonRoads r = begun();
                    due(44, "n numbers of a sort", r.numbers(tray, sort, n), 0);
                    due(45, "the last of " + n, r.write(tray, n - 1, 5), n == 0 ? -7 : 5);
                    due(45, "behind the last of " + n, r.write(tray, n, 5), -7);
                }
            }
        }
        RibbonRoads r = begun();
        due(41, "sixes ahead of it", r.faded(2, 1), Check.bits(5, 6));
        due(44, "in place of another one", r.numbers(2, 0, 2), 0);
        due(44, "all 0: no deed", r.judge(2, 0), 0);
        due(44, "all 0: no deed", r.judge(2, 1), 1);
        Check.tray(r, 2, 0, -1, -1, -1);
        due(44, "hours ahead of it", r.judge(2, 0), -1);
        due(44, "in place of a like one", r.numbers(2, 0, 3), 0);
        due(44, "all 0 again", r.judge(2, 0), 0);
        due(44, "an empty one", r.numbers(2, 0, 0), 0);
        due(44, "it is not MISSING", r.judge(2, 0), -1);
        due(44, "nor has it a number", r.write(2, 0, 1), -7);
        due(44, "no deed that could be UNDONE", r.count(10), 4);
    }

    /** Promise 45: "Number i of a TRAY is v, cut to its sort: as it is there. -2: no such TRAY; -6; -7". */
    private static void write() {
        for (int tray : NO_TRAYS) {
            EDGES.refused(45, "-2: no such TRAY " + tray, EdgesTraysTest::begun, r -> r.write(tray, 0, 1), -2);
            EDGES.refused(45, "-2 ahead of -7", EdgesTraysTest::begun, r -> r.write(tray, -1, 1), -2);
        }
        EDGES.refused(45, "-6", EdgesTraysTest::begun, r -> r.write(3, 0, 1), -6);
        EDGES.refused(45, "-6 ahead of -7", EdgesTraysTest::begun, r -> r.write(3, -1, 1), -6);
        for (int i : new int[] {-1, 2, 6, 39, 40, Integer.MIN_VALUE, Integer.MAX_VALUE}) {
            EDGES.refused(45, "-7: it has no number " + i, EdgesTraysTest::begun, r -> r.write(1, i, 1), -7);
        }
        EDGES.refused(45, "-7: an empty one", EdgesTraysTest::begun, r -> r.write(0, 0, 1), -7);
        RibbonRoads r = begun();
        int[] bits = {8, 16, 32, 64};
        for (int sort = 0; sort < 4; sort++) {
            r.numbers(3, sort, 40);
            long top = 1L << bits[sort] - 1;
            long[] fit = {0, 1, -1, top - 1, -top, 100, -100};
            for (long v : fit) {
                due(45, "it fits into " + bits[sort] + " bits: " + v, r.write(3, 39, v), v);
            }
            if (sort < 3) {
                long[][] cut = {{top, -top}, {-top - 1, top - 1}, {2 * top, 0}, {2 * top - 1, -1}, {2 * top + 5, 5},
                    {-2 * top, 0}, {-2 * top - 1, -1}, {Long.MAX_VALUE, -1}, {Long.MIN_VALUE, 0}};
                for (long[] c : cut) {
                    due(45, "cut to " + bits[sort] + " bits: " + c[0], r.write(3, 0, c[0]), c[1]);
                }
            }
        }
        r = begun();
        r.write(1, 0, -1);
        due(45, "the first number, the other stays", r.judge(1, 3), 9);
        r.write(1, 1, 65535);
        due(45, "the last number, 65535 in 16 bits is an HOUR", r.judge(1, 3), 9);
        r.write(1, 1, 65534);
        due(45, "65534 in 16 bits is none", r.judge(1, 3), 8);
        due(45, "other TRAYS stay", r.manyFaded(2, 1), 2);
    }

    /** Promise 46: "as far as it has places: how many. -2: the TRAY, the DRUM, the CELL; -6; -5: there is none". */
    private static void lists() {
        for (int tray : NO_TRAYS) {
            EDGES.refused(46, "-2: the TRAY " + tray, EdgesTraysTest::begun, r -> r.lists(tray, 1, 3), -2);
        }
        for (int d : new int[] {-1, 2, 6, Integer.MIN_VALUE, Integer.MAX_VALUE}) {
            EDGES.refused(46, "-2: the DRUM " + d, EdgesTraysTest::begun, r -> r.lists(2, d, 3), -2);
            EDGES.refused(46, "-2: the DRUM, ahead of -6", EdgesTraysTest::begun, r -> r.lists(3, d, 3), -2);
        }
        for (int k : new int[] {-1, 12, 36, Integer.MIN_VALUE, Integer.MAX_VALUE}) {
            EDGES.refused(46, "-2: the CELL " + k, EdgesTraysTest::begun, r -> r.lists(2, 1, k), -2);
            EDGES.refused(46, "-2: the CELL, ahead of -6", EdgesTraysTest::begun, r -> r.lists(3, 1, k), -2);
        }
        EDGES.refused(46, "-6", EdgesTraysTest::begun, r -> r.lists(3, 1, 3), -6);
        EDGES.refused(46, "-6 ahead of -5", EdgesTraysTest::begun, r -> r.lists(3, 1, 0), -6);
        for (int k : new int[] {0, 1, 4, 9}) {
            EDGES.refused(46, "-5: there is none to " + k, EdgesTraysTest::begun, r -> r.lists(2, 1, k), -5);
        }
        EDGES.refused(46, "-5: there is none, and no place", EdgesTraysTest::begun, r -> r.lists(0, 1, 0), -5);
        EDGES.refused(46, "no TURNS to END", EdgesTraysTest::begun, r -> r.lists(2, 1, 11), 0);
        EDGES.refused(46, "no places", EdgesTraysTest::begun, r -> r.lists(0, 1, 3), 0);
        for (int places = 0; places <= 5; places++) {
            RibbonRoads r = begun();
            r.numbers(3, 1, places);
            for (int i = 0; i < places; i++) {
                r.write(3, i, -1);
            }
            // From cell 11 to 2: two to the north, one to the west.
            int listed = Math.min(places, 3);
            due(46, "as far as it has places: " + places, r.lists(3, 1, 2), listed);
            due(46, "all are DEEDS, others stay", r.judge(3, 0), -1);
            due(46, "others stay: HOURS", r.judge(3, 3), 7 + places - listed);
            due(20, "so many are done", r.perform(3), places);
            due(46, "LAID so far", r.drum(1, 3), new int[] {11, 7, 3, 2}[listed]);
        }
        overAll();
    }

    /** "as DEEDS by which it is LAID over all": YARDS aside, of 16 turns, of the sixth drum, cut to 8 bits. */
    private static void overAll() {
        RibbonRoads r = begun();
        r.numbers(3, 1, 1);
        due(46, "to the CELL where one lies", r.lists(3, 1, 10), 1);
        r.numbers(3, 1, 2);
        due(46, "two TURNS to the END of the other", r.lists(3, 1, 6), 2);
        due(20, "done", r.perform(3), 2);
        due(46, "over", r.cell(6, 2), 1);
        due(46, "over", r.cell(6, 3), 0);
        r = Check.told("land 6 6;drum 0 0 yards 0;may:y=0 or y=2 or y=4 or y=1 and x=5 or y=3 and x=0;");
        r.numbers(0, 1, 40);
        due(46, "16 TURNS, YARDS aside", r.lists(0, 0, 26), 16);
        due(46, "-5: 17 TURNS", r.lists(0, 0, 27), -5);
        due(19, "4: it hasn't so many YARDS", r.judge(0, 1), 4);
        r = Check.told("land 6 6;drum 0 0 yards 9;drum 1 0 yards 9;drum 2 0 yards 9;drum 3 0 yards 9;drum 4 0 yards 9;drum 5 0 yards 9;");
        r.numbers(0, 1, 1);
        due(46, "the sixth DRUM", r.lists(0, 5, 11), 1);
        due(20, "the sixth DRUM", r.perform(0), 1);
        due(46, "the sixth DRUM", r.drum(5, 3), 11);
        r.numbers(0, 0, 1);
        r.lists(0, 0, 6);
        due(46, "13 in 8 bits", r.perform(0), 1);
        r.lists(0, 1, 7);
        due(46, "1013 in 8 bits is -11", r.perform(0), 0);
    }

    /** Promises 47, 48: "-2"; "-5: none was made"; "All that is in an IMAGE is as it was"; "nothing can be UNDONE behind". */
    private static void images() {
        for (int i : NO_IMAGES) {
            EDGES.refused(47, "-2: no such IMAGE " + i, EdgesTraysTest::begun, r -> r.image(i), -2);
            EDGES.refused(48, "-2: no such IMAGE " + i, EdgesTraysTest::begun, r -> r.restore(i), -2);
        }
        EDGES.refused(48, "-5: none was made", EdgesTraysTest::begun, r -> r.restore(1), -5);
        EDGES.refused(48, "-5: none was made of a new object", RibbonRoads::new, r -> r.restore(0), -5);
        Supplier<RibbonRoads> both = () -> {
            RibbonRoads r = begun();
            due(47, "made", r.image(1), 0);
            r.hours(3);
            due(47, "made, in place of another", r.image(0), 0);
            return r;
        };
        for (int i = 0; i < 2; i++) {
            RibbonRoads r = both.get();
            Check.tell(r, "land 2 2;rock 0 0;");
            due(48, "restored", r.restore(i), 0);
            due(48, "HOUR", r.count(9), i == 1 ? 7 : 10);
            due(48, "nothing can be UNDONE behind", r.count(10), 0);
            due(48, "nothing can be UNDONE behind", r.undo(1), -3);
            due(48, "THE LAND", r.count(3), 2);
            due(48, "RIBBONS", r.drum(0, 2), 2);
            due(48, "TRAVELLERS", r.traveller(0, 2), i == 1 ? 0 : 1);
            due(48, "its law", r.takes(0, 0), 2);
            due(48, "LINES", r.count(12), 8);
            r.rain(9);
            due(48, "deeds behind it can be UNDONE", r.undo(1), 0);
            due(48, "restored again", r.restore(i), 0);
            due(48, "WET", r.count(8), 1);
        }
        RibbonRoads r = begun();
        due(47, "an IMAGE leaves what can be UNDONE", r.image(1) + r.count(10), 4);
        String before = Seen.land(begun());
        due(47, "an IMAGE leaves all", Seen.land(r).equals(before) ? 1 : 0, 1);
        due(48, "what isn't in it stays: THE TAPE", r.restore(0) + r.count(11), 20);
        due(48, "what isn't in it stays: TRAYS", r.write(0, 0, 1), -7);
        due(48, "what isn't in it stays: TRAYS", r.write(3, 0, 1), -6);
        due(48, "nothing can be UNDONE behind, though the land is the same", r.count(10), 0);
        due(48, "nothing can be UNDONE behind, though the land is the same", r.undo(1), -3);
        due(48, "the other IMAGE stays", r.restore(1), 0);
        due(48, "as it was", r.count(9), 7);
        r = new RibbonRoads();
        r.rain(7);
        due(47, "an IMAGE without a text", r.image(0), 0);
        Check.tell(r, "land 6 6;drum 0 0 yards 3;takes:5;may:1=2;wet 2;hour 4;");
        due(48, "2 by 2 CELLS, no DRUMS", r.restore(0), 0);
        int[] counts = {2, 2, 0, 0, 0, 0, 0, 0, 7, 0, 0, 0, 0};
        for (int what = 0; what < counts.length; what++) {
            due(48, "2 by 2 CELLS, no DRUMS: count(" + what + ")", r.count(what), counts[what]);
        }
    }

    /** Promise 49: "NONE for others"; what is empty, what is full. */
    private static void count() {
        for (int what : new int[] {-1, 13, Integer.MIN_VALUE, Integer.MAX_VALUE}) {
            EDGES.refused(49, "NONE for others: " + what, EdgesTraysTest::begun, r -> r.count(what), -1);
        }
        int[] counts = {4, 3, 2, 2, 0, 1, 1, 1, 1, 7, 4, 20, 8};
        for (int what = 0; what < counts.length; what++) {
            int asked = what;
            EDGES.refused(49, "count(" + what + ")", EdgesTraysTest::begun, r -> r.count(asked), counts[what]);
        }
        RibbonRoads r = Check.told("land 6 6;drum 0 1 yards 99;drum 0 2 yards 99;drum 0 3 yards 99;drum 1 0 yards 99;drum 2 0 yards 99;drum 3 0 yards 99;");
        int crossings = 0;
        for (int d = 0; d < 6; d++) {
            Check.layOver(r, d, d < 3 ? "2222" : "3333");
            crossings += d < 3 ? 0 : 3;
            due(49, "RIBBONS that lie", r.count(5), d + 1);
            due(49, "crossings", r.count(4), crossings);
        }
        for (int t = 0; t < 8; t++) {
            r.setOut(t % 6);
            due(49, "TRAVELLERS", r.count(6), t + 1);
            due(49, "those that haven't ARRIVED", r.count(7), t + 1);
        }
        r.hours(48);
        due(49, "TRAVELLERS that ARRIVED are counted", r.count(6), 8);
        due(49, "none that hasn't ARRIVED", r.count(7), 0);
        due(49, "calls that can be UNDONE: 10 at most", r.count(10), 10);
        due(49, "NONE", RibbonRoads.NONE, -1);
    }

    public static void main(String[] args) {
        numbers();
        write();
        lists();
        images();
        count();
        EDGES.end(44, 49);
    }
}
