import java.util.Random;

/** Promises 22 to 28: ways. */
public final class WaysTest {
    private static final Check CHECK = new Check("WaysTest");

    private static void due(String call, long got, long want) {
        CHECK.due(call, got, want);
    }

    private static String wayOf(RibbonRoads r, int d, int k) {
        StringBuilder all = new StringBuilder();
        for (int i = 0; r.way(d, k, i) > 0; i++) {
            all.append(r.way(d, k, i));
        }
        return all.toString();
    }

    private static void way(RibbonRoads r, int d, int k, String turns) {
        due("way to " + k + " is " + turns + ", not " + wayOf(r, d, k), wayOf(r, d, k).equals(turns) ? 1 : 0, 1);
    }

    private static void plain() {
        RibbonRoads r = Check.told("land 4 3;drum 0 1 yards 4;takes:1+y*y;");
        due("END", r.fewest(0, 4), 0);
        way(r, 0, 4, "");
        due("no turn", r.way(0, 4, 0), -1);
        due("north", r.fewest(0, 0), 1);
        due("straight on", r.fewest(0, 5), 2);
        due("straight on, or by the row of 1", r.fewest(0, 7), 6);
        way(r, 0, 7, "222");
        due("behind", r.way(0, 7, 3), -1);
        way(r, 0, 3, "1222");
        due("dear", r.fewest(0, 8), 5);
        due("dear", r.fewest(0, 11), 6 + 5);
        due("reach", r.reach(0), Check.bits(0, 1, 2, 3, 4, 5, 6));
        due("farthest", r.farthest(0), 3);
        due("no drum", r.reach(1), -2);
        due("no drum", r.reach(-1), -2);
        due("no drum", r.fewest(1, 0), -2);
        due("no cell", r.fewest(0, 12), -2);
        due("no cell", r.fewest(0, -1), -2);
        due("no drum", r.way(1, 0, -1), -2);
        due("no cell", r.way(0, 12, -1), -2);
        due("below 0", r.way(0, 0, -1), -3);
        due("no drum", r.ways(1, 0, -1), -2);
        due("no cell", r.ways(0, 12, 9), -2);
        due("-1 cells", r.ways(0, 0, -1), -3);
        due("9 cells", r.ways(0, 0, 9), -3);
        due("no drum", r.crossings(1, 0), -2);
        due("no cell", r.crossings(0, 12), -2);
        due("no drum", r.needed(1, 0), -2);
        due("no cell", r.needed(0, -1), -2);
        due("no drum", r.farthest(1), -2);
    }

    private static void likeOnes() {
        RibbonRoads r = Check.told("land 4 4;drum 1 1 yards 9;");
        way(r, 0, 0, "14");
        way(r, 0, 2, "12");
        way(r, 0, 10, "23");
        way(r, 0, 8, "34");
        way(r, 0, 15, "2233");
        due("farthest, the first", r.farthest(0), 15);
        due("ways of 2", r.ways(0, 10, 2), 2);
        due("ways of 3", r.ways(0, 10, 3), 0);
        due("ways of 4", r.ways(0, 10, 4), 4);
        due("farthest of like ones is the first", Check.told("land 3 3;drum 1 1 yards 9;").farthest(0), 0);
        // Of like yards the fewest cells, though others come first by turns.
        r = Check.told("land 3 3;drum 0 1 yards 9;takes:1+y*(2-y)*(2-x)*x*2;");
        due("3 or 1 1 1 ... 3", r.fewest(0, 4), 3);
        way(r, 0, 4, "2");
        due("round by 1 1 1 1 or by 3 1", r.fewest(0, 5), 4);
        way(r, 0, 5, "22");
    }

    /** A corridor of 20 cells: no way has more than 16. */
    private static void corridor() {
        RibbonRoads r = Check.told("land 6 6;drum 0 0 yards 999;may:y=0 or y=2 or y=4 or y=1 and x=5 or y=3 and x=0;");
        due("5 cells", r.fewest(0, 5), 5);
        due("12 cells", r.fewest(0, 12), 12);
        due("16 cells", r.fewest(0, 26), 16);
        due("17 cells", r.fewest(0, 27), -1);
        due("no such way", r.way(0, 27, 0), -1);
        due("crossings of none", r.crossings(0, 27), -1);
        due("needed of none", r.needed(0, 27), 0);
        due("needed", r.needed(0, 26), Check.bits(1, 2, 3, 4, 5, 11, 17, 16, 15, 14, 13, 12, 18, 24, 25));
        due("needed of END", r.needed(0, 0), 0);
        due("END has ways of 0", r.ways(0, 0, 0), 1);
        due("END has no others", r.ways(0, 0, 2), 0);
        due("others have none of 0", r.ways(0, 1, 0), 0);
        due("8 cells", r.ways(0, 16, 8), 1);
        Check.layOver(r, 0, "22222334");
        due("8 lie", r.drum(0, 2), 8);
        due("8 more", r.fewest(0, 26), 8);
        due("9 more", r.fewest(0, 27), -1);
        due("needed behind END", r.needed(0, 26), Check.bits(15, 14, 13, 12, 18, 24, 25));
        due("ways of 8", r.ways(0, 26, 8), 1);
        r.lay(0, 4, true);
        due("ways of 8 no more", r.ways(0, 27, 8), 0);
        due("where it lies itself", r.fewest(0, 1), -1);
        due("its drum", r.fewest(0, 0), -1);
    }

    /** A corridor of cells that take 1 among cells that take 99, longer than 16. */
    private static void longAndCheap() {
        RibbonRoads r = Check.told("land 6 6;drum 0 0 yards 106;takes:1+y*(2-y)*(4-y)*((5-x)*(3-y)-x*(y-1))*99;");
        due("dear", r.takes(0, 10), 99);
        due("cheap", r.takes(0, 11), 1);
        due("dear", r.takes(0, 19), 99);
        due("cheap", r.takes(0, 18), 1);
        due("along it", r.fewest(0, 12), 12);
        way(r, 0, 12, "222223344444");
        due("16 cells of it", r.fewest(0, 26), 16);
        way(r, 0, 26, "2222233444443322");
        due("17 can't be", r.fewest(0, 27), 98 + 7);
        way(r, 0, 27, "3333222");
        due("of like ones the first", r.fewest(0, 29), 98 + 9);
        way(r, 0, 29, "222223333");
        due("reach 27", r.reach(0) >> 27 & 1, 1);
        due("not 29", r.reach(0) >> 29 & 1, 0);
    }

    private static void crossingsAndLaws() {
        RibbonRoads r = Check.told("land 5 3;drum 0 1 yards 99;drum 2 0 yards 99;drum 4 0 yards 9;may:drum=1 or x<4;");
        Check.layOver(r, 1, "33");
        due("cells lie", r.cell(7, 1) + r.cell(12, 1), 2);
        due("over the ribbon", r.crossings(0, 8), 1);
        due("to the ribbon", r.crossings(0, 7), 1);
        due("none", r.crossings(0, 1), 0);
        due("END", r.crossings(0, 5), 0);
        due("may not", r.crossings(0, 9), -1);
        due("may not", r.fewest(0, 9), -1);
        due("a drum", r.fewest(0, 2), -1);
        r.takeIn(1);
        Check.layOver(r, 1, "343");
        due("the short way crosses two", r.fewest(0, 8), 3);
        due("another one but one", r.crossings(0, 8), 1);
        RibbonRoads s = Check.told("land 5 3;drum 0 1 yards 99;drum 2 2 yards 99;");
        Check.layOver(s, 1, "1");
        due("short way crosses", s.fewest(0, 8), 3);
        due("round it none is crossed", s.crossings(0, 8), 0);
        due("two lie", s.crossings(0, 7), 1);
        Check.layOver(s, 0, "22");
        due("there already", s.crossings(0, 7), 0);
        due("two lie there", s.fewest(1, 7), 0);
    }

    private static void dry() {
        RibbonRoads r = Check.told("land 2 2;drum 0 0 yards 0;drum 1 1 yards 5;");
        due("END alone", r.reach(0), 1);
        due("END", r.farthest(0), 0);
        due("more than it has", r.fewest(0, 1), 1);
        due("reach", r.reach(1), Check.bits(1, 2, 3));
        due("round a drum", r.fewest(1, 0), -1);
    }

    // Each land here is searched through way by way, so the cells that ways may take are few or the ways short.

    private static final int[] FEWEST = new int[36];
    private static final int[] CROSSED = new int[36];
    private static final String[] TURNS = new String[36];
    private static final int[][] MANY = new int[36][17];
    private static final char[] TRAIL = new char[16];
    private static final int[][] NEXT = new int[36][5];
    private static final int[] TAKES = new int[36];
    private static final int[] LIES = new int[36];
    private static int longest;

    private static void walk(int at, int length, int yards, int crossed, long free) {
        MANY[at][length]++;
        CROSSED[at] = Math.min(CROSSED[at], crossed);
        if (yards < FEWEST[at] || yards == FEWEST[at] && (length < TURNS[at].length() || length == TURNS[at].length()
            && new String(TRAIL, 0, length).compareTo(TURNS[at]) < 0)) {
            FEWEST[at] = yards;
            TURNS[at] = new String(TRAIL, 0, length);
        }
        for (int turn = 1; turn <= 4 && length < longest; turn++) {
            int to = NEXT[at][turn];
            if (to >= 0 && (free >> to & 1) == 1) {
                TRAIL[length] = (char) ('0' + turn);
                walk(to, length + 1, yards + TAKES[to], crossed + LIES[to], free & ~(1L << to));
            }
        }
    }

    private static void searched(int seed) {
        Random random = new Random(seed);
        int wide = 4 + random.nextInt(3);
        int high = 4 + random.nextInt(3);
        String[] laws = {"1", "1+x*3", "wet+y*drum+1", "(x-2)*(x-2)+1", "1+x*y*wet", "3-x+y", "1+(x+y)*(x+y)*2"};
        StringBuilder text = new StringBuilder("land " + wide + " " + high + ";takes:" + laws[random.nextInt(laws.length)] + ";");
        text.append("wet " + random.nextInt(10) + ";");
        boolean[] used = new boolean[wide * high];
        for (int i = 0; i < 2 + random.nextInt(wide * high / 4); i++) {
            int k = random.nextInt(wide * high);
            if (!used[k]) {
                text.append((i < 2 ? "drum " : "rock ") + k % wide + " " + k / wide + (i < 2 ? " yards 999;" : ";"));
                used[k] = true;
            }
        }
        boolean bare = random.nextInt(3) == 0;
        text.append(bare ? "may:lies=0;" : "");
        RibbonRoads r = Check.told(text.toString());
        for (int i = random.nextInt(15); i > 0; i--) {
            r.lay(i % r.count(2), 1 + random.nextInt(4), true);
        }
        int d = 0;
        int end = r.drum(d, 3);
        longest = 16 - r.drum(d, 2);
        long free = 0;
        for (int k = 0; k < wide * high; k++) {
            FEWEST[k] = Integer.MAX_VALUE;
            CROSSED[k] = Integer.MAX_VALUE;
            java.util.Arrays.fill(MANY[k], 0);
            TAKES[k] = r.takes(d, k);
            LIES[k] = r.cell(k, 1);
            boolean own = r.cell(k, 2) == d || r.cell(k, 3) == d;
            free |= r.cell(k, 0) == 0 && LIES[k] < (bare ? 1 : 2) && !own ? 1L << k : 0;
            NEXT[k][1] = k >= wide ? k - wide : -1;
            NEXT[k][2] = k % wide < wide - 1 ? k + 1 : -1;
            NEXT[k][3] = k + wide < wide * high ? k + wide : -1;
            NEXT[k][4] = k % wide > 0 ? k - 1 : -1;
        }
        walk(end, 0, 0, 0, free);
        for (int k = 0; k < wide * high; k++) {
            boolean none = FEWEST[k] == Integer.MAX_VALUE;
            due("fewest " + k + " of " + text, r.fewest(d, k), none ? -1 : FEWEST[k]);
            due("crossings " + k + " of " + text, r.crossings(d, k), none ? -1 : CROSSED[k]);
            way(r, d, k, none ? "" : TURNS[k]);
            for (int n = 0; n <= 8; n++) {
                due("ways of " + n + " of " + text, r.ways(d, k, n), MANY[k][n]);
            }
        }
    }

    public static void main(String[] args) {
        plain();
        likeOnes();
        corridor();
        longAndCheap();
        crossingsAndLaws();
        dry();
        for (int seed = 0; seed < 300; seed++) {
            searched(seed);
        }
        CHECK.end();
    }
}
