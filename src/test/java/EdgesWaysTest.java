/** Boundary cases of promises 22 to 28: ways. */
public final class EdgesWaysTest {
    private static final Edges EDGES = new Edges("EdgesWaysTest");
    private static final int[] NO_DRUMS = {-1, 2, 6, Integer.MIN_VALUE, Integer.MAX_VALUE};
    private static final int[] NO_CELLS = {-1, 12, 36, Integer.MIN_VALUE, Integer.MAX_VALUE};

    private static void due(int promise, String words, long got, long want) {
        EDGES.due(promise, words, got, want);
    }

    private static void way(String words, RibbonRoads r, int d, int k, String turns) {
        for (int i = 0; i < turns.length(); i++) {
            due(24, words + ", TURN " + i, r.way(d, k, i), turns.charAt(i) - '0');
        }
        due(24, words + ", no more TURNS", r.way(d, k, turns.length()), -1);
    }

    /** 4 by 3 with a rock in a corner's way: cell 0 is shut off; a ribbon of 1 lies on cell 6. */
    private static RibbonRoads begun() {
        RibbonRoads r = Check.told("land 4 3;rock 1 0;rock 0 1;drum 1 2 yards 5;drum 2 2 yards 5;hour 2;");
        r.image(0);
        Check.layOver(r, 1, "1");
        Check.tray(r, 1, 1, 1, -1);
        r.feed(0x6c616e64, 0x20322032, 0x3b202020, 0x20202020, 0x20202020);
        return r;
    }

    /** "-2", told ahead of -3, both ahead of NONE; none of these calls changes anything. */
    private static void refusals() {
        for (int d : NO_DRUMS) {
            EDGES.refused(22, "-2: no such DRUM " + d, EdgesWaysTest::begun, r -> r.reach(d), -2);
            EDGES.refused(23, "-2: no such DRUM " + d, EdgesWaysTest::begun, r -> r.fewest(d, 3), -2);
            EDGES.refused(24, "-2: no such DRUM " + d, EdgesWaysTest::begun, r -> r.way(d, 3, 0), -2);
            EDGES.refused(25, "-2: no such DRUM " + d, EdgesWaysTest::begun, r -> r.ways(d, 3, 2), -2);
            EDGES.refused(26, "-2: no such DRUM " + d, EdgesWaysTest::begun, r -> r.crossings(d, 3), -2);
            EDGES.refused(27, "-2: no such DRUM " + d, EdgesWaysTest::begun, r -> r.needed(d, 3), -2);
            EDGES.refused(28, "-2: no such DRUM " + d, EdgesWaysTest::begun, r -> r.farthest(d), -2);
            due(24, "-2 ahead of -3", begun().way(d, 3, -1), -2);
            due(25, "-2 ahead of -3", begun().ways(d, 3, 9), -2);
        }
        for (int k : NO_CELLS) {
            EDGES.refused(23, "-2: no such CELL " + k, EdgesWaysTest::begun, r -> r.fewest(0, k), -2);
            EDGES.refused(24, "-2: no such CELL " + k, EdgesWaysTest::begun, r -> r.way(0, k, 0), -2);
            EDGES.refused(25, "-2: no such CELL " + k, EdgesWaysTest::begun, r -> r.ways(0, k, 2), -2);
            EDGES.refused(26, "-2: no such CELL " + k, EdgesWaysTest::begun, r -> r.crossings(0, k), -2);
            EDGES.refused(27, "-2: no such CELL " + k, EdgesWaysTest::begun, r -> r.needed(0, k), -2);
            due(24, "-2 ahead of -3", begun().way(0, k, -1), -2);
            due(25, "-2 ahead of -3", begun().ways(0, k, -1), -2);
        }
        for (int i : new int[] {-1, Integer.MIN_VALUE}) {
            EDGES.refused(24, "-3: i is below 0", EdgesWaysTest::begun, r -> r.way(0, 3, i), -3);
            EDGES.refused(24, "-3 ahead of NONE", EdgesWaysTest::begun, r -> r.way(0, 0, i), -3);
            EDGES.refused(24, "-3 at END, too", EdgesWaysTest::begun, r -> r.way(0, 9, i), -3);
        }
        for (int n : new int[] {-1, 9, Integer.MIN_VALUE, Integer.MAX_VALUE}) {
            EDGES.refused(25, "-3: " + n + " CELLS", EdgesWaysTest::begun, r -> r.ways(0, 3, n), -3);
            EDGES.refused(25, "-3: " + n + " CELLS to where there is none", EdgesWaysTest::begun, r -> r.ways(0, 0, n), -3);
        }
        EDGES.refused(22, "a question changes nothing", EdgesWaysTest::begun, r -> r.reach(0), Check.bits(2, 3, 5, 6, 7, 8, 9, 11));
        EDGES.refused(23, "a question changes nothing", EdgesWaysTest::begun, r -> r.fewest(0, 3), 4);
        EDGES.refused(24, "a question changes nothing", EdgesWaysTest::begun, r -> r.way(0, 3, 3), 2);
        EDGES.refused(25, "a question changes nothing", EdgesWaysTest::begun, r -> r.ways(0, 3, 4), 2);
        EDGES.refused(26, "a question changes nothing", EdgesWaysTest::begun, r -> r.crossings(0, 3), 1);
        EDGES.refused(27, "a question changes nothing", EdgesWaysTest::begun, r -> r.needed(0, 3), Check.bits(5, 6));
        EDGES.refused(28, "a question changes nothing", EdgesWaysTest::begun, r -> r.farthest(0), 3);
    }

    /** "NONE: there is none": a rock, a drum's cell, a cell shut off, one where it lies itself, where two lie. */
    private static void noWay() {
        RibbonRoads r = begun();
        for (int k : new int[] {0, 1, 4, 10}) {
            none("shut off, a rock, a DRUM", r, 0, k);
        }
        r = Check.told("land 4 3;drum 0 1 yards 9;drum 2 0 yards 9;drum 3 1 yards 9;may:drum=1 or drum=2 or y<2;");
        Check.layOver(r, 0, "2");
        Check.layOver(r, 1, "3");
        Check.layOver(r, 2, "4");
        none("where two lie", r, 0, 6);
        none("it MAY not", r, 0, 9);
        none("behind these", r, 0, 3);
        none("its own DRUM", r, 0, 4);
        due(23, "a CELL beside these", r.fewest(0, 1), 1);
        Check.layOver(r, 0, "1");
        none("where it lies itself", r, 0, 5);
        due(23, "its END", r.fewest(0, 1), 0);
    }

    private static void none(String words, RibbonRoads r, int d, int k) {
        due(22, words + ", not reached: " + k, r.reach(d) >> k & 1, 0);
        due(23, words + ": " + k, r.fewest(d, k), -1);
        due(24, words + ": " + k, r.way(d, k, 0), -1);
        due(26, words + ": " + k, r.crossings(d, k), -1);
        due(27, words + ", 0: " + k, r.needed(d, k), 0);
        for (int n = 0; n <= 8; n++) {
            due(25, words + ": " + k + " of " + n, r.ways(d, k, n), 0);
        }
    }

    /** "It is there already, if that is its END: no TURNS." */
    private static void atEnd() {
        RibbonRoads r = Check.told("land 3 3;drum 1 1 yards 0;drum 1 2 yards 9;takes:9;");
        Check.layOver(r, 1, "2");
        int[][] ends = {{0, 4}, {1, 8}};
        for (int[] e : ends) {
            due(23, "END: no YARDS", r.fewest(e[0], e[1]), 0);
            way("END: no TURNS", r, e[0], e[1], "");
            due(24, "END: no TURNS", r.way(e[0], e[1], Integer.MAX_VALUE), -1);
            due(25, "END: a WAY of 0 CELLS", r.ways(e[0], e[1], 0), 1);
            for (int n = 1; n <= 8; n++) {
                due(25, "END: none of more", r.ways(e[0], e[1], n), 0);
            }
            due(26, "END: no CROSSINGS", r.crossings(e[0], e[1]), 0);
            due(27, "END: nothing is needed", r.needed(e[0], e[1]), 0);
            due(22, "its END, too", r.reach(e[0]), 1L << e[1]);
            due(28, "no farther than END", r.farthest(e[0]), e[1]);
        }
        r = Check.told("land 3 3;drum 1 1 yards 9;drum 1 2 yards 9;drum 1 0 yards 9;");
        Check.layOver(r, 0, "2");
        Check.layOver(r, 1, "21");
        due(26, "END, where two lie: no CROSSINGS", r.crossings(0, 5), 0);
        due(23, "END, where two lie: no YARDS", r.fewest(1, 5), 0);
        none("END of another, where two lie", r, 2, 5);
    }

    /** "takes no more YARDS than a DRUM has": just as many, one less. */
    private static void yards() {
        // To cell k of the row it takes 3 * k.
        for (int has = 0; has <= 16; has++) {
            RibbonRoads r = Check.told("land 6 2;drum 0 0 yards " + has + ";takes:3;may:y=0;");
            long reached = 1;
            for (int k = 1; k <= 5; k++) {
                reached |= 3 * k <= has ? 1L << k : 0;
                due(23, "more than it has, too", r.fewest(0, k), 3 * k);
            }
            due(22, "no more YARDS than it has: " + has, r.reach(0), reached);
            due(28, "the farthest with " + has, r.farthest(0), Math.min(5, has / 3));
        }
        RibbonRoads r = Check.told("land 6 6;drum 5 0 yards 7;drum 0 5 yards 3;");
        due(22, "the last of 36 CELLS, as a long", r.reach(0) >>> 35, 1);
        due(22, "all bits of 36 CELLS at most", r.reach(1) >>> 36, 0);
        due(22, "the bit 33 of DRUM 1", r.reach(1) >>> 33, 1);
        due(28, "of like ones the first", Check.told("land 3 3;drum 1 1 yards 2;").farthest(0), 0);
        due(28, "of like ones the first, 1 YARD", Check.told("land 3 3;drum 1 1 yards 1;").farthest(0), 1);
        due(28, "the dearest, though not the most CELLS", Check.told("land 3 3;drum 1 1 yards 9;takes:1+x*(x-1)*2;").farthest(0), 2);
        r = Check.told("land 3 3;drum 1 1 yards 99;takes:99;");
        due(23, "99 YARDS a CELL", r.fewest(0, 0), 198);
        due(22, "99 YARDS", r.reach(0), Check.bits(1, 3, 4, 5, 7));
        due(23, "16 CELLS of 99 YARDS", Check.told("land 6 6;drum 0 0 yards 9;takes:99;may:" + SNAKE + ";").fewest(0, 26), 16 * 99);
    }

    private static final String SNAKE = "y=0 or y=2 or y=4 or y=1 and x=5 or y=3 and x=0";

    /** "16 at most": the 16th cell of a way, none behind; as many less as lie already. */
    private static void sixteen() {
        // The snake: along row 0, down at x 5, back along row 2, down at x 0, along row 4.
        int[] snake = {0, 1, 2, 3, 4, 5, 11, 17, 16, 15, 14, 13, 12, 18, 24, 25, 26, 27, 28, 29};
        String turns = "2222233444443322222";
        for (int lie = 0; lie <= 16; lie++) {
            RibbonRoads r = Check.told("land 6 6;drum 0 0 yards 999;may:" + SNAKE + ";");
            Check.layOver(r, 0, turns.substring(0, lie));
            due(23, "the 16th CELL, " + lie + " lie", r.fewest(0, 26), 16 - lie);
            due(23, "the 17th CELL, " + lie + " lie", r.fewest(0, 27), -1);
            way("the 16th CELL, " + lie + " lie", r, 0, 26, turns.substring(lie, 16));
            way("the 17th CELL, " + lie + " lie", r, 0, 27, "");
            due(26, "the 16th CELL", r.crossings(0, 26), 0);
            due(26, "the 17th CELL", r.crossings(0, 27), -1);
            long reached = 0;
            long needed = 0;
            for (int i = lie; i <= 16; i++) {
                reached |= 1L << snake[i];
                needed |= i > lie && i < 16 ? 1L << snake[i] : 0;
            }
            due(22, "up to the 16th CELL, " + lie + " lie", r.reach(0), reached);
            due(27, "all between END and the CELL", r.needed(0, 26), needed);
            due(27, "none to the 17th: 0", r.needed(0, 27), 0);
            due(28, "the 16th CELL", r.farthest(0), 26);
            for (int n = 0; n <= 8; n++) {
                due(25, "of " + n + " CELLS, " + lie + " lie", r.ways(0, 26, n), lie + n == 16 ? 1 : 0);
                due(25, "none to the 17th", r.ways(0, 27, n), 0);
            }
        }
    }

    /** A needed cell is one without which the ways left would be longer than 16, too. */
    private static void neededByLength() {
        // Row 0 leads to x 5 by five cells; the way round it by the snake's rows is longer.
        String may = "may:y=0 or x=0 or y=4 or x=5;";
        RibbonRoads r = Check.told("land 6 6;drum 0 0 yards 99;" + may);
        due(27, "the way round has 13 CELLS: nothing is needed", r.needed(0, 5), 0);
        Check.layOver(r, 0, "2");
        due(27, "behind its first CELL there is no way round", r.needed(0, 5), Check.bits(2, 3, 4));
        r = Check.told("land 6 6;drum 1 0 yards 99;may:y=0 or x=0 or y=5 or x=5;");
        due(27, "the way round has 16 CELLS: nothing is needed", r.needed(0, 5), 0);
        due(27, "round the other way 9 and 11", r.needed(0, 29), 0);
        r = Check.told("land 6 6;drum 2 0 yards 99;may:y=0 or x=0 or y=5 or x=5;");
        due(27, "the way round has 17 CELLS: all between are needed", r.needed(0, 5), Check.bits(3, 4));
        due(27, "the way round has 16 CELLS", r.needed(0, 11), 0);
        r = Check.told("land 6 6;drum 5 0 yards 99;may:x=5;");
        due(27, "bits above 31", r.needed(0, 35), Check.bits(11, 17, 23, 29));
        r = Check.told("land 6 6;drum 4 5 yards 99;drum 0 4 yards 9;may:y=5;");
        due(27, "bits above 31", r.needed(0, 30), Check.bits(31, 32, 33));
        // Round a ring from its first cell both ways: to the east, to the south.
        r = Check.told("land 3 3;rock 1 1;drum 0 0 yards 9;");
        due(27, "two WAYS round", r.needed(0, 8), 0);
        due(27, "two WAYS round", r.needed(0, 6), 0);
        due(27, "two WAYS round", r.needed(0, 2), 0);
        Check.tell(r, "land 6 2;drum 0 0 yards 9;may:y=0 or x>3;");
        due(27, "a wider land: its rows are longer", r.needed(0, 5), Check.bits(1, 2, 3, 4));
        due(27, "a wider land: two WAYS behind", r.needed(0, 11), Check.bits(1, 2, 3, 4));
        Check.tell(r, "land 6 3;rock 1 1;rock 2 1;rock 3 1;rock 4 1;drum 0 0 yards 9;");
        due(27, "a wider land: two WAYS round", r.needed(0, 17), 0);
        Check.tell(r, "land 3 6;drum 2 0 yards 9;");
        due(27, "a narrow land", r.needed(0, 15), 0);
        Check.tell(r, "land 6 2;drum 5 0 yards 9;");
        due(27, "a wider land, to the west: two WAYS", r.needed(0, 0), 0);
        // The east edge does not lead to the next row's west edge, nor back.
        r = Check.told("land 3 3;drum 2 0 yards 9;may:x=2 or y=2;");
        due(27, "no way over the edge", r.needed(0, 6), Check.bits(5, 7, 8));
        r = Check.told("land 3 3;drum 0 2 yards 9;may:x=0 or y=0;");
        due(27, "no way over the edge", r.needed(0, 2), Check.bits(0, 1, 3));
    }

    /** "the one of the fewest YARDS, of like ones of the fewest CELLS, of like ones the first by TURNS". */
    private static void likeOnes() {
        RibbonRoads r = Check.told("land 3 3;drum 1 1 yards 9;");
        way("the first by TURNS", r, 0, 0, "14");
        way("the first by TURNS", r, 0, 2, "12");
        way("the first by TURNS", r, 0, 6, "34");
        way("the first by TURNS", r, 0, 8, "23");
        r = Check.told("land 3 2;drum 0 1 yards 9;takes:1+y*(2*x-x*x)*2;");
        // Cell 4 takes 3, all others 1: to cell 5 "22" takes 4, so does "1223".
        due(23, "like YARDS", r.fewest(0, 5), 4);
        way("of like ones of the fewest CELLS", r, 0, 5, "22");
        r = Check.told("land 3 2;drum 0 1 yards 9;takes:1+y*(2*x-x*x)*3;");
        way("fewer YARDS, more CELLS", r, 0, 5, "1223");
        r = Check.told("land 3 2;drum 0 1 yards 9;takes:1+y*(2*x-x*x);");
        way("fewer YARDS, fewer CELLS", r, 0, 5, "22");
        r = Check.told("land 3 3;drum 0 0 yards 9;");
        way("the first by its first TURN, then by the second", r, 0, 8, "2233");
        way("of one TURN", r, 0, 1, "2");
    }

    /** "CROSSINGS of a WAY: CELLS of it on which a RIBBON lies": the last counts, the first not. */
    private static void crossings() {
        RibbonRoads r = Check.told("land 6 2;drum 0 0 yards 9;drum 0 1 yards 9;may:y=0 or drum=1;");
        Check.layOver(r, 1, "2");
        Check.layOver(r, 1, "122");
        int[] crossed = {0, 1, 2, 3, 3, 3};
        for (int k = 0; k < 6; k++) {
            due(26, "CELLS on which one lies: " + k, r.crossings(0, k), crossed[k]);
        }
        Check.layOver(r, 0, "2");
        for (int k = 2; k < 6; k++) {
            due(26, "END counts not: " + k, r.crossings(0, k), crossed[k] - 1);
        }
        r = Check.told("land 3 3;drum 0 0 yards 9;drum 1 0 yards 9;");
        Check.layOver(r, 1, "33");
        due(26, "each WAY crosses once at least", r.crossings(0, 8), 1);
        due(26, "of WAYS of any length", r.crossings(0, 6), 0);
        r = Check.told("land 6 3;drum 0 0 yards 9;drum 1 0 yards 9;");
        Check.layOver(r, 1, "3");
        due(23, "the SHORT WAY crosses", r.fewest(0, 7), 2);
        due(26, "so does every other to that CELL", r.crossings(0, 7), 1);
        due(26, "but round it there is one", r.crossings(0, 8), 0);
        r = Check.told("land 6 2;drum 0 0 yards 9;drum 2 1 yards 9;may:y=0 or drum=1;");
        Check.layOver(r, 1, "1");
        due(26, "one lies in the way", r.crossings(0, 5), 1);
        r.takeIn(1);
        due(26, "none lies there any more", r.crossings(0, 5), 0);
        r = Check.told("land 3 3;drum 1 1 yards 9;drum 1 0 yards 9;");
        due(26, "nothing lies on the first CELL", r.crossings(0, 0), 0);
        Check.layOver(r, 1, "4");
        due(26, "one lies on the first CELL", r.crossings(0, 0), 1);
        due(26, "nothing lies on the last CELL", r.crossings(0, 8), 0);
    }

    /** "How many WAYS of just n CELLS (0 to 8)": no cell twice. */
    private static void ways() {
        RibbonRoads r = Check.told("land 2 2;drum 0 0 yards 9;");
        for (int k = 0; k < 4; k++) {
            due(25, "2 by 2, 0 CELLS: to END alone, not " + k, r.ways(0, k, 0), k == 0 ? 1 : 0);
        }
        int[][] by = {{1, 1, 1}, {1, 2, 0}, {1, 3, 1}, {1, 4, 0}, {2, 1, 1}, {2, 3, 1}, {3, 1, 0}, {3, 2, 2}, {3, 3, 0}, {3, 4, 0}, {0, 4, 0}};
        for (int[] b : by) {
            due(25, "2 by 2: to " + b[0] + " by " + b[1], r.ways(0, b[0], b[1]), b[2]);
        }
        r = Check.told("land 3 3;drum 0 0 yards 0;");
        due(25, "8 CELLS: all of 3 by 3, YARDS aside", r.ways(0, 8, 8), 2);
        due(25, "7 CELLS: none, as in chess", r.ways(0, 8, 7), 0);
        due(25, "4 CELLS", r.ways(0, 8, 4), 6);
        r = Check.told("land 6 6;drum 0 0 yards 0;");
        due(25, "8 CELLS, straight on and down", r.ways(0, 28, 8), 70);
    }

    public static void main(String[] args) {
        refusals();
        noWay();
        atEnd();
        yards();
        sixteen();
        neededByLength();
        likeOnes();
        crossings();
        ways();
        EDGES.end(22, 28);
    }
}
