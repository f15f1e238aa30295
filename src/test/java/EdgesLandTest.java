/** Boundary cases of promises 1 to 9: a new object, the tape, the land, what it tells. */
public final class EdgesLandTest {
    private static final Edges EDGES = new Edges("EdgesLandTest");
    private static final int[] FAR = {Integer.MIN_VALUE, Integer.MIN_VALUE + 1, -1000, 1000, Integer.MAX_VALUE - 1, Integer.MAX_VALUE};

    private static void due(int promise, String words, long got, long want) {
        EDGES.due(promise, words, got, want);
    }

    /** 5 by 3 with a rock, three drums, two of whose ribbons cross; one traveller has gone a cell, one arrived. */
    private static RibbonRoads begun() {
        RibbonRoads r = Check.told("land 5 3;rock 4 2;drum 0 1 yards 20;drum 1 0 yards 20;drum 4 0 yards 3;takes:1+x;wet 3;hour 40;");
        Check.layOver(r, 0, "222");
        r.image(1);
        Check.layUnder(r, 1, "33");
        r.setOut(1);
        r.hours(1);
        r.setOut(0);
        r.hours(1);
        Check.tray(r, 0, 1, 2, 3, -1);
        Check.tray(r, 2, 0, 6, 6);
        r.feed(0x6c616e64, 0x20322032, 0x3b202020, 0x20202020, 0x20202020);
        return r;
    }

    /** Promise 1: "2 by 2 CELLS, no DRUMS"; "without one"; "(0)"; MISSING "at first"; "none at first". */
    private static void newObject() {
        RibbonRoads r = new RibbonRoads();
        int[] counts = {2, 2, 0, 0, 0, 0, 0, 0, 0, 0, 0, 0, 0};
        for (int what = 0; what < counts.length; what++) {
            due(1, "count(" + what + ") of a new object", r.count(what), counts[what]);
        }
        for (int k = -1; k <= 4; k++) {
            due(1, "2 by 2 CELLS: " + k, r.cell(k, 0), k >= 0 && k < 4 ? 0 : -2);
            due(1, "nothing lies on " + k, r.cell(k, 1), k >= 0 && k < 4 ? 0 : -2);
        }
        due(1, "no DRUMS: drum", r.drum(0, 0), -2);
        due(1, "no DRUMS: lies", r.lies(0, 0), -2);
        due(1, "no DRUMS: takes", r.takes(0, 0), -2);
        due(1, "no DRUMS: why", r.why(0, 1), 1);
        due(1, "no DRUMS: lay", r.lay(0, 1, true), -11);
        due(1, "no DRUMS: back", r.back(0), -11);
        due(1, "no DRUMS: takeIn", r.takeIn(0), -11);
        due(1, "no DRUMS: setOut", r.setOut(0), -11);
        due(1, "no DRUMS: season", r.season(0, 1), -5);
        due(1, "no DRUMS: reach", r.reach(0), -2);
        due(1, "no DRUMS: fewest", r.fewest(0, 0), -2);
        due(1, "no DRUMS: way", r.way(0, 0, 0), -2);
        due(1, "no DRUMS: ways", r.ways(0, 0, 0), -2);
        due(1, "no DRUMS: crossings", r.crossings(0, 0), -2);
        due(1, "no DRUMS: needed", r.needed(0, 0), -2);
        due(1, "no DRUMS: farthest", r.farthest(0), -2);
        due(1, "no DRUMS: above", r.above(0), -2);
        due(1, "no DRUMS: ahead", r.ahead(0), -2);
        due(1, "no DRUMS: free", r.free(0), -2);
        due(1, "no DRUMS: wouldArrive", r.wouldArrive(0), -2);
        due(1, "no DRUMS: order", r.order(0), -1);
        due(1, "no DRUMS: stuck", r.stuck(), 0);
        due(1, "no DRUMS: twists", r.twists(), 0);
        due(1, "no DRUMS: orders", r.orders(), 1);
        due(1, "nobody: allIn", r.allIn(), 0);
        due(1, "nobody: busiest", r.busiest(), 0);
        due(1, "nobody: traveller", r.traveller(0, 0), -2);
        due(1, "nobody: arrives", r.arrives(0), -2);
        due(1, "nobody: waits", r.waits(0), -2);
        due(1, "nothing can be UNDONE", r.undo(1), -3);
        due(1, "nothing on THE TAPE", r.land(1), -3);
        for (int tray = 0; tray < 4; tray++) {
            due(1, "TRAYS are MISSING at first", r.write(tray, 0, 0), -6);
        }
        for (int i = 0; i < 2; i++) {
            due(1, "IMAGES: none at first", r.restore(i), -5);
        }
        due(1, "no FAULT yet", r.fault(0), 0);
        due(1, "no place yet", r.fault(1), -1);
    }

    /** Promise 1: an object's 512 calls. */
    private static void manyCalls() {
        RibbonRoads r = new RibbonRoads();
        r.feed(0x6c616e64, 0x20322032, 0x3b647275, 0x6d203020, 0x30207961);
        r.feed(0x72647320, 0x393b2020, 0x20202020, 0x20202020, 0x20202020);
        r.land(40);
        for (int i = 3; i < 509; i++) {
            r.rain(i % 10);
        }
        due(1, "the 510th call", r.rain(0), 8);
        due(1, "the 511th call", r.lay(0, 2, true), 8);
        due(1, "the 512th call", r.count(10), 10);
    }

    /** Promise 2: "Twenty bytes come behind those on THE TAPE, the highest of each int first". */
    private static void feed() {
        RibbonRoads r = new RibbonRoads();
        due(2, "twenty bytes", r.feed(0x6c616e64, 0x20322033, 0x3b776574, 0x20373b68, 0x6f757220), 20);
        due(2, "twenty more", r.feed(0x3938373b, 0x20202020, 0x20202020, 0x20202020, 0x20202020), 40);
        due(2, "the highest of each int first, behind those on THE TAPE", r.land(24), 3);
        due(2, "the first int", r.count(1), 3);
        due(2, "the fourth int", r.count(8), 7);
        due(2, "behind those on THE TAPE", r.count(9), 987);
        due(2, "an empty TAPE", r.feed(-1, -1, -1, -1, -1), 20);
        due(2, "bytes of 255 are no TOKENS", r.land(20), -31);
        for (int n = 1; n <= 44; n++) {
            r.feed(0x20202020, 0x20202020, 0x20202020, 0x20202020, 0x20202020);
        }
        due(2, "880 bytes", r.count(11), 880);
        due(2, "900 bytes", r.feed(0x6c616e64, 0x20332032, 0x3b776574, 0x20353b20, 0x20202030 + 11), 900);
        due(2, "-5: it would have more than 900", r.feed(0x21212121, 0x21212121, 0x21212121, 0x21212121, 0x21212121), -5);
        due(2, "-5 again", r.feed(0, 0, 0, 0, 0), -5);
        due(2, "THE TAPE stays", r.count(11), 900);
        due(2, "its last byte stays", r.land(900), -32);
        due(2, "its last byte stays: a ; there", r.fault(1), 899);
        due(2, "empty again", r.feed(0, 0, 0, 0, 0), 20);
    }

    private static RibbonRoads fullTape() {
        RibbonRoads r = begun();
        for (int n = 0; n < 44; n++) {
            r.feed(0x20202020, 0x20202020, 0x20202020, 0x20202020, 0x20202020);
        }
        return r;
    }

    /** Promise 3: "-3: n is below 0 or above what there is (THE TAPE stays)"; "which is empty then". */
    private static void land() {
        EDGES.refused(2, "-5: more than 900", EdgesLandTest::fullTape, r -> r.feed(1, 2, 3, 4, 5), -5);
        EDGES.refused(3, "n is below 0", EdgesLandTest::begun, r -> r.land(-1), -3);
        EDGES.refused(3, "n is above what there is", EdgesLandTest::begun, r -> r.land(21), -3);
        EDGES.refused(3, "n is above what there is, 900", EdgesLandTest::begun, r -> r.land(900), -3);
        EDGES.refused(3, "n is above what there can be", EdgesLandTest::fullTape, r -> r.land(901), -3);
        EDGES.refused(3, "nothing on THE TAPE", RibbonRoads::new, r -> r.land(1), -3);
        for (int far : FAR) {
            EDGES.refused(3, "n is " + far, EdgesLandTest::begun, r -> r.land(far), -3);
        }
        due(3, "all there is", begun().land(20), 1);
        due(3, "as much as is needed", begun().land(9), 1);
        due(3, "a byte less", begun().land(8), -32);
        due(3, "0 bytes", begun().land(0), -32);
        due(3, "0 bytes of a new object", new RibbonRoads().land(0), -32);
        for (int n : new int[] {0, 1, 9, 20}) {
            RibbonRoads r = begun();
            r.land(n);
            due(3, "THE TAPE is empty then", r.count(11), 0);
            due(3, "THE TAPE is empty then", r.land(1), -3);
        }
        RibbonRoads r = begun();
        due(3, "LINES: land, too", r.land(9), 1);
        int[] counts = {2, 2, 0, 0, 0, 0, 0, 0, 0, 0, 0, 0, 1};
        for (int what = 0; what < counts.length; what++) {
            due(3, "nothing of the land ahead of it: count(" + what + ")", r.count(what), counts[what]);
        }
        due(3, "nothing can be UNDONE", r.undo(1), -3);
        due(3, "TRAYS stay", r.write(0, 1, 77), 77);
        due(3, "TRAYS stay", r.write(1, 0, 77), -6);
        due(3, "IMAGES stay", r.restore(1), 0);
        due(3, "IMAGES stay", r.drum(0, 2), 3);
        due(3, "IMAGES stay", r.restore(0), -5);
        nothingIsLaid();
    }

    /** Promise 3: "nothing is LAID, nobody is on the way", though drums are on the same cells. */
    private static void nothingIsLaid() {
        RibbonRoads r = begun();
        r.land(0);
        due(3, "told anew", Check.tell(r, "land 5 3;drum 0 1 yards 20;drum 1 0 yards 20;"), 3);
        for (int k = 0; k < 15; k++) {
            due(3, "nothing is LAID", r.cell(k, 1), 0);
            due(3, "nothing is LAID", r.cell(k, 2), -1);
            due(3, "nothing is LAID", r.cell(k, 3), -1);
            due(3, "nobody is on the way", r.cell(k, 4), -1);
            due(3, "the law takes is gone", r.takes(0, k), 1);
            due(3, "the rock is gone", r.cell(k, 0), k == 5 || k == 1 ? 2 : 0);
        }
        for (int d = 0; d < 2; d++) {
            due(3, "all YARDS", r.drum(d, 1), 20);
            due(3, "no CELLS", r.drum(d, 2), 0);
            due(3, "END is the DRUM's CELL", r.drum(d, 3), d == 0 ? 5 : 1);
            due(3, "no YARDS lie", r.drum(d, 4), 0);
            due(3, "no CELLS", r.lies(d, 0), -1);
        }
        due(3, "the third DRUM is gone", r.drum(2, 0), -2);
        due(3, "nobody is on the way", r.traveller(0, 0), -2);
        due(3, "WET (0)", r.count(8), 0);
        due(3, "HOUR (0)", r.count(9), 0);
        due(3, "numbered from 0 on again", r.lay(0, 2, true) + r.setOut(0), 19);
        r = Check.told("land 5 3;drum 0 1 yards 20;drum 1 0 yards 30;takes:9;may:1=2;");
        Check.tell(r, "land 5 3;drum 0 1 yards 7;");
        due(3, "the law may is gone: always", r.why(0, 2), 0);
        Check.tell(r, "land 5 3;drum 0 1 yards 7;may:not x=1;");
        due(3, "another law may", r.why(0, 2), 3);
        Check.tell(r, "land 5 3;drum 0 1 yards 7;may:x=1;");
        due(3, "nothing is left of a longer law may", r.why(0, 2), 0);
        Check.tell(r, "land 5 3;drum 0 1 yards 7;");
        due(3, "the law takes is gone: 1", r.takes(0, 6), 1);
        r.numbers(0, 0, 0);
        due(19, "YARDS of all DRUMS there are now", r.judge(0, 2), 7);
        for (int i = 0; i < 2; i++) {
            Check.layOver(r, 0, "22");
            r.setOut(0);
            r.setOut(0);
            due(3, "nobody has WAITED yet", r.traveller(1, 3), 0);
            due(3, "nobody has gone yet", r.traveller(0, 1), -1);
            r.hours(1);
            due(3, "the second WAITED", r.traveller(1, 3), 1);
            Check.tell(r, "land 5 3;drum 0 1 yards 7;");
        }
    }

    /** Promise 4: "Of the latest land() that was read"; "NONE for others". */
    private static void fault() {
        RibbonRoads r = new RibbonRoads();
        Check.tell(r, "land 2 2;wet 11;");
        for (int i = 0; i < 2; i++) {
            due(4, "its FAULT", r.fault(0), 3);
            due(4, "its place", r.fault(1), 13);
            due(4, "one that was not read", r.land(1), -3);
        }
        for (int what : new int[] {-1, 2, 3, Integer.MIN_VALUE, Integer.MAX_VALUE}) {
            due(4, "NONE for others: " + what, r.fault(what), -1);
        }
        due(4, "a land", Check.tell(r, "land 2 2;"), 1);
        due(4, "no FAULT: 0", r.fault(0), 0);
        due(4, "no place: NONE", r.fault(1), -1);
        for (int what : new int[] {-1, 2}) {
            due(4, "NONE for others: " + what, r.fault(what), -1);
        }
        r.land(0);
        due(4, "a FAULT at the first place", r.fault(1), 0);
    }

    /** Promise 5: "-2"; "(NONE)". */
    private static void cell() {
        RibbonRoads r = begun();
        for (int what = 0; what < 5; what++) {
            due(5, "the CELL -1", r.cell(-1, what), -2);
            due(5, "the CELL behind the last", r.cell(15, what), -2);
            for (int far : FAR) {
                due(5, "no such CELL", r.cell(far, what), -2);
            }
        }
        for (int k = 0; k < 15; k++) {
            due(5, "what -1", r.cell(k, -1), -2);
            due(5, "what 5", r.cell(k, 5), -2);
        }
        int[][] cells = {{0, 0, 0, -1, -1, -1}, {14, 1, 0, -1, -1, -1}, {5, 2, 0, -1, -1, -1}, {4, 2, 0, -1, -1, -1},
            {6, 0, 2, 0, 1, 1}, {7, 0, 1, 0, -1, -1}, {8, 0, 1, 0, -1, -1}, {11, 0, 1, 1, -1, -1}, {9, 0, 0, -1, -1, -1}};
        for (int[] c : cells) {
            for (int what = 0; what < 5; what++) {
                due(5, "cell(" + c[0] + ", " + what + ")", r.cell(c[0], what), c[1 + what]);
            }
        }
        r = Check.told("land 6 6;");
        due(5, "the last of 36", r.cell(35, 0), 0);
        due(5, "no 37th", r.cell(36, 0), -2);
        r = Check.told("land 2 2;");
        due(5, "the last of 4", r.cell(3, 0), 0);
        due(5, "no fifth, though there were more", r.cell(4, 0), -2);
        r = Check.told("land 3 2;drum 0 0 yards 2;");
        Check.layOver(r, 0, "2");
        r.setOut(0);
        due(5, "at its DRUM it is on no CELL", r.cell(0, 4), -1);
        due(5, "nor on the first", r.cell(1, 4), -1);
        r.hours(1);
        due(5, "ARRIVED it is on none", r.cell(1, 4), -1);
    }

    /** Promises 6 and 7: "its END: ... its DRUM's CELL without any"; "NONE: not so many; -2; -3: i is below 0". */
    private static void drumAndLies() {
        RibbonRoads r = begun();
        for (int what = 0; what < 5; what++) {
            due(6, "the DRUM -1", r.drum(-1, what), -2);
            due(6, "the DRUM behind the last", r.drum(3, what), -2);
            for (int far : FAR) {
                due(6, "no such DRUM", r.drum(far, what), -2);
            }
        }
        for (int d = 0; d < 3; d++) {
            due(6, "what -1", r.drum(d, -1), -2);
            due(6, "what 5", r.drum(d, 5), -2);
        }
        int[][] drums = {{5, 11, 3, 8, 9}, {1, 16, 2, 11, 4}, {4, 3, 0, 4, 0}};
        for (int d = 0; d < 3; d++) {
            for (int what = 0; what < 5; what++) {
                due(6, "drum(" + d + ", " + what + ")", r.drum(d, what), drums[d][what]);
            }
        }
        due(7, "the first", r.lies(0, 0), 6);
        due(7, "the last", r.lies(0, 2), 8);
        due(7, "not so many", r.lies(0, 3), -1);
        due(7, "not so many, none lies", r.lies(2, 0), -1);
        due(7, "far", r.lies(0, Integer.MAX_VALUE), -1);
        due(7, "i is below 0", r.lies(0, -1), -3);
        due(7, "i is below 0, none lies", r.lies(2, -1), -3);
        due(7, "i is far below 0", r.lies(0, Integer.MIN_VALUE), -3);
        for (int d : new int[] {-1, 3, Integer.MIN_VALUE, Integer.MAX_VALUE}) {
            due(7, "no such DRUM", r.lies(d, 0), -2);
            due(7, "no such DRUM, told ahead of i", r.lies(d, -1), -2);
        }
        r = Check.told("land 6 6;drum 0 0 yards 16;drum 0 5 yards 99;");
        Check.layOver(r, 0, "2222234444432222");
        due(6, "16 CELLS", r.drum(0, 2), 16);
        due(6, "no YARDS left", r.drum(0, 1), 0);
        due(6, "16 YARDS lie", r.drum(0, 4), 16);
        due(6, "END is the 16th", r.drum(0, 3), 16);
        due(7, "the 16th", r.lies(0, 15), 16);
        due(7, "no 17th", r.lies(0, 16), -1);
        Check.layOver(r, 1, "2");
        due(7, "those of another one", r.lies(1, 0), 31);
        due(7, "those of another one", r.lies(1, 1), -1);
    }

    /** Promise 8: "on which CELL of it (0 on; NONE: at the DRUM, ARRIVED)"; "-2". */
    private static void traveller() {
        RibbonRoads r = begun();
        int[][] all = {{1, -1, 1, 0}, {0, 0, 0, 0}};
        for (int t = 0; t < 2; t++) {
            for (int what = 0; what < 4; what++) {
                due(8, "traveller(" + t + ", " + what + ")", r.traveller(t, what), all[t][what]);
            }
            due(8, "what -1", r.traveller(t, -1), -2);
            due(8, "what 4", r.traveller(t, 4), -2);
        }
        for (int t : new int[] {-1, 2, 7, 8, Integer.MIN_VALUE, Integer.MAX_VALUE}) {
            for (int what = 0; what < 4; what++) {
                due(8, "no such TRAVELLER", r.traveller(t, what), -2);
            }
        }
        for (int t = 2; t < 8; t++) {
            r.setOut(0);
        }
        due(8, "the eighth", r.traveller(7, 0), 0);
        due(8, "NONE: at the DRUM", r.traveller(7, 1), -1);
        due(8, "no ninth", r.traveller(8, 0), -2);
        r.undo(1);
        due(8, "an UNDONE one is none", r.traveller(7, 0), -2);
    }

    /** Promise 9: "1 at least, 99 at most (without one: 1)"; "(whether it can be or not)"; "-2". */
    private static void takes() {
        String[] laws = {"0", "1", "2", "98", "99", "100", "999", "0-1", "0-999", "999*999", "0-999*999"};
        int[] yards = {1, 1, 2, 98, 99, 99, 99, 1, 1, 99, 1};
        for (int i = 0; i < laws.length; i++) {
            RibbonRoads r = Check.told("land 2 2;drum 0 0 yards 999;takes:" + laws[i] + ";");
            due(9, "1 at least, 99 at most: " + laws[i], r.takes(0, 1), yards[i]);
            due(9, "as many are taken: " + laws[i], r.lay(0, 2, true), 999 - yards[i]);
        }
        due(9, "without a law: 1", Check.told("land 2 2;drum 0 0 yards 9;").takes(0, 1), 1);
        RibbonRoads r = begun();
        for (int d = 0; d < 3; d++) {
            for (int k = 0; k < 15; k++) {
                due(9, "whether it can be or not: " + d + ", " + k, r.takes(d, k), 1 + k % 5);
            }
            due(9, "the CELL -1", r.takes(d, -1), -2);
            due(9, "the CELL behind the last", r.takes(d, 15), -2);
        }
        for (int d : new int[] {-1, 3, Integer.MIN_VALUE, Integer.MAX_VALUE}) {
            due(9, "no such DRUM", r.takes(d, 0), -2);
            due(9, "neither DRUM nor CELL", r.takes(d, -1), -2);
        }
        r = Check.told("land 6 6;drum 0 0 yards 9;drum 5 5 yards 9;takes:x+y*6+drum*20+wet;");
        due(9, "x 5, y 5, the second DRUM", r.takes(1, 35), 55);
        due(9, "x 0, y 0, the first DRUM", r.takes(0, 0), 1);
        r.rain(9);
        due(9, "WET 9", r.takes(1, 35), 64);
        due(9, "WET 9", r.takes(0, 0), 9);
    }

    /** "In both laws each + - * is kept from -1,000,000 to 1,000,000." A million is M, less a million is (0-M). */
    private static void kept() {
        String m = "((999+1)*(999+1))";
        String[] sums = {m + "-(999+1)*999-990", m + "+5-" + m + "+1", m + "*2-" + m + "+3", m + "+" + m + "-" + m + "+4",
            "0-(0-" + m + "+" + m + ")+6", "(0-" + m + "-5)+" + m + "+7", "(0-" + m + ")*3+" + m + "+8",
            "(0-" + m + "-" + m + ")+" + m + "+9", "(0-" + m + ")*(0-" + m + ")-" + m + "+10", m + "*" + m + "-" + m + "+11",
            "(0-" + m + "+1)+(999+1)*999+999+12", "(0-" + m + "*" + m + ")+" + m + "+13"};
        // Each would be another number, were it kept a single one closer, farther, or at the end alone.
        int[] yards = {10, 1, 3, 4, 6, 7, 8, 9, 10, 11, 12, 13};
        for (int i = 0; i < sums.length; i++) {
            RibbonRoads r = Check.told("land 2 2;drum 0 0 yards 99;takes:" + sums[i] + ";");
            due(9, "kept to a million: " + sums[i], r.takes(0, 1), yards[i]);
            r = Check.told("land 2 2;drum 0 0 yards 99;may:" + sums[i] + "=" + yards[i] + ";");
            due(10, "kept to a million in may: " + sums[i], r.why(0, 2), 0);
        }
        String[] truths = {m + "+1=" + m, "0-" + m + "-1=0-" + m, m + "-1<" + m, "0-" + m + "+1>0-" + m, "not " + m + ">" + m};
        for (String law : truths) {
            due(10, "may " + law, Check.told("land 2 2;drum 0 0 yards 99;may:" + law + ";").why(0, 2), 0);
        }
    }

    public static void main(String[] args) {
        newObject();
        manyCalls();
        feed();
        land();
        fault();
        cell();
        drumAndLies();
        traveller();
        takes();
        kept();
        EDGES.end(1, 9);
    }
}
