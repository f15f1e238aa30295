import java.util.function.Supplier;

/** Boundary cases of promises 10 to 18: deeds one by one, and undoing them. */
public final class EdgesDeedsTest {
    private static final Edges EDGES = new Edges("EdgesDeedsTest");

    private static void due(int promise, String words, long got, long want) {
        EDGES.due(promise, words, got, want);
    }

    /** A lay that can't be: why, its code, and nothing else. */
    private static void cannot(String words, Supplier<RibbonRoads> maker, int d, int turn, int reason) {
        due(10, words, maker.get().why(d, turn), reason);
        EDGES.refused(11, words + ", over", maker, r -> r.lay(d, turn, true), -10 - reason);
        EDGES.refused(11, words + ", under", maker, r -> r.lay(d, turn, false), -10 - reason);
    }

    private static void can(String words, Supplier<RibbonRoads> maker, int d, int turn, int yards) {
        due(10, words, maker.get().why(d, turn), 0);
        due(11, words, maker.get().lay(d, turn, true), yards);
        due(11, words, maker.get().lay(d, turn, false), yards);
    }

    private static Supplier<RibbonRoads> told(String text) {
        return () -> Check.told(text);
    }

    /** 4 by 3; ribbon 0 along the middle row, 1 over it on cell 5, 2 under it on cell 6; three travellers. */
    private static RibbonRoads begun() {
        RibbonRoads r = Check.told("land 4 3;rock 0 2;drum 0 1 yards 20;drum 1 0 yards 20;drum 2 0 yards 20;"
            + "drum 3 0 yards 20;takes:1+wet;wet 1;hour 5;");
        r.image(0);
        Check.layOver(r, 0, "22");
        Check.layOver(r, 1, "3");
        Check.layUnder(r, 2, "33");
        r.setOut(0);
        r.hours(1);
        r.setOut(1);
        r.setOut(2);
        Check.tray(r, 1, 1, 3, 1003);
        r.feed(0x6c616e64, 0x20322032, 0x3b202020, 0x20202020, 0x20202020);
        return r;
    }

    /** "1 no such DRUM, TURN". */
    private static void noSuch() {
        for (int d : new int[] {-1, 4, 6, Integer.MIN_VALUE, Integer.MAX_VALUE}) {
            cannot("1: no such DRUM " + d, EdgesDeedsTest::begun, d, 3, 1);
            cannot("1: neither DRUM nor TURN", EdgesDeedsTest::begun, d, 0, 1);
            EDGES.refused(12, "no such DRUM", EdgesDeedsTest::begun, r -> r.back(d), -11);
            EDGES.refused(13, "no such DRUM", EdgesDeedsTest::begun, r -> r.takeIn(d), -11);
            EDGES.refused(14, "no such DRUM", EdgesDeedsTest::begun, r -> r.setOut(d), -11);
        }
        for (int turn : new int[] {-1, 0, 5, Integer.MIN_VALUE, Integer.MAX_VALUE}) {
            cannot("1: no such TURN " + turn, EdgesDeedsTest::begun, 3, turn, 1);
        }
        String six = "land 6 6;drum 0 0 yards 1;drum 1 0 yards 1;drum 2 0 yards 1;drum 3 0 yards 1;drum 4 0 yards 1;drum 5 0 yards 1;";
        can("the last of six DRUMS", told(six), 5, 3, 0);
        due(10, "no seventh", Check.told(six).why(6, 3), 1);
    }

    /** "2 beyond the edge": the last cell ahead of each edge, and none behind it, nor on the next row. */
    private static void edges() {
        int[][] inner = {{1, 2}, {3, 2}, {2, 1}, {2, 3}};
        for (int turn = 1; turn <= 4; turn++) {
            // A drum one cell from the edge, and one at it, on a land of 5 by 5.
            int dx = turn == 2 ? 1 : turn == 4 ? -1 : 0;
            int dy = turn == 1 ? -1 : turn == 3 ? 1 : 0;
            String near = "land 5 5;drum " + (2 + dx) + " " + (2 + dy) + " yards 9;";
            String at = "land 5 5;drum " + (2 + 2 * dx) + " " + (2 + 2 * dy) + " yards 9;";
            can("the CELL at the edge, TURN " + turn, told(near), 0, turn, 8);
            cannot("2: beyond the edge, TURN " + turn, told(at), 0, turn, 2);
            int t = turn;
            cannot("2: beyond the edge from an END, TURN " + turn, () -> {
                RibbonRoads r = Check.told(near);
                r.lay(0, t, true);
                return r;
            }, 0, turn, 2);
        }
        for (int k = 0; k < inner.length; k++) {
            String text = "land 4 4;drum " + inner[k][0] + " " + inner[k][1] + " yards 9;";
            RibbonRoads r = Check.told(text);
            for (int turn = 1; turn <= 4; turn++) {
                int x = inner[k][0] + (turn == 2 ? 1 : turn == 4 ? -1 : 0);
                int y = inner[k][1] + (turn == 1 ? -1 : turn == 3 ? 1 : 0);
                due(10, "edges of 4 by 4", r.why(0, turn), x < 0 || y < 0 || x > 3 || y > 3 ? 2 : 0);
            }
        }
        RibbonRoads r = Check.told("land 6 2;drum 5 0 yards 9;drum 0 1 yards 9;");
        due(10, "the east edge is not the next row", r.why(0, 2), 2);
        due(10, "the west edge is not the row ahead", r.why(1, 4), 2);
        due(10, "wide is not high: south", r.why(1, 3), 2);
        due(10, "wide is not high: north", r.why(1, 1), 0);
        r = Check.told("land 2 6;drum 1 0 yards 9;drum 0 5 yards 9;");
        due(10, "the east edge is not the next row", r.why(0, 2), 2);
        due(10, "the west edge is not the row ahead", r.why(1, 4), 2);
        due(10, "wide is not high: south", r.why(0, 3), 0);
        due(10, "wide is not high: south of the last row", r.why(1, 3), 2);
    }

    /** "2 ... a rock, a CELL with a DRUM, one where it lies itself, where two lie, 16 CELLS". */
    private static void takenCells() {
        cannot("2: a rock", told("land 3 3;rock 1 0;drum 0 0 yards 9;"), 0, 2, 2);
        cannot("2: a CELL with a DRUM", told("land 3 3;drum 1 0 yards 9;drum 0 0 yards 9;"), 1, 2, 2);
        Supplier<RibbonRoads> itself = () -> {
            RibbonRoads r = Check.told("land 3 3;drum 0 0 yards 9;");
            Check.layOver(r, 0, "32214");
            return r;
        };
        cannot("2: its own DRUM", itself, 0, 4, 2);
        cannot("2: where it lies itself", itself, 0, 3, 2);
        cannot("2: where it lies itself, the last but one", itself, 0, 2, 2);
        Supplier<RibbonRoads> one = () -> {
            RibbonRoads r = Check.told("land 3 3;drum 1 0 yards 9;drum 0 1 yards 9;drum 2 1 yards 9;");
            Check.layOver(r, 0, "3");
            return r;
        };
        can("where one lies", one, 1, 2, 8);
        for (boolean over : new boolean[] {true, false}) {
            Supplier<RibbonRoads> two = () -> {
                RibbonRoads r = one.get();
                r.lay(1, 2, over);
                return r;
            };
            cannot("2: where two lie", two, 2, 4, 2);
            RibbonRoads r = two.get();
            due(11, "the upper one", r.cell(4, 2), over ? 1 : 0);
            due(11, "the lower one", r.cell(4, 3), over ? 0 : 1);
        }
        RibbonRoads r = one.get();
        due(11, "under nothing: the only one", r.lay(1, 3, false), 8);
        due(11, "under nothing: the only one", r.cell(6, 2), 1);
        due(11, "under nothing: no lower one", r.cell(6, 3), -1);
        Supplier<RibbonRoads> fifteen = () -> {
            RibbonRoads f = Check.told("land 6 6;drum 0 0 yards 99;");
            Check.layOver(f, 0, "222223444443222");
            return f;
        };
        can("a 16th CELL", fifteen, 0, 2, 83);
        cannot("2: 16 CELLS", () -> {
            RibbonRoads f = fifteen.get();
            f.lay(0, 2, true);
            return f;
        }, 0, 2, 2);
    }

    /** "3 it MAY not"; "(without one: always)"; "4 it hasn't so many YARDS"; the least of them. */
    private static void mayAndYards() {
        can("without a law: always", told("land 3 3;drum 0 0 yards 9;"), 0, 2, 8);
        can("the law holds", told("land 3 3;drum 0 0 yards 9;may:x=1 and y=0 and wet=0 and drum=0 and lies=0;"), 0, 2, 8);
        cannot("3: it MAY not", told("land 3 3;drum 0 0 yards 9;may:not x=1;"), 0, 2, 3);
        for (String law : new String[] {"not x=1", "not not x=2", "not[x=1 or x=2]", "x=1 and y=1", "y=1 or x=2", "x<1", "x>1", "x<x", "x>x", "lies>0", "lies<0", "wet<0", "0>1", "1<0"}) {
            cannot("3: " + law, told("land 3 3;drum 0 0 yards 9;may:" + law + ";"), 0, 2, 3);
        }
        for (String law : new String[] {"not not x=1", "not not not x=2", "not[not x=1]", "[[x=1]]", "x<2", "x>0", "x=x", "lies<1", "wet<1", "0<1", "1>0", "0=0"}) {
            can(law, told("land 3 3;drum 0 0 yards 9;may:" + law + ";"), 0, 2, 8);
        }
        can("just so many YARDS", told("land 3 3;drum 0 0 yards 5;takes:5;"), 0, 2, 0);
        can("one YARD more", told("land 3 3;drum 0 0 yards 6;takes:5;"), 0, 2, 1);
        cannot("4: one YARD too few", told("land 3 3;drum 0 0 yards 4;takes:5;"), 0, 2, 4);
        cannot("4: no YARDS", told("land 3 3;drum 0 0 yards 0;"), 0, 2, 4);
        can("the last YARD", told("land 3 3;drum 0 0 yards 1;"), 0, 2, 0);
        can("99 of 999", told("land 3 3;drum 0 0 yards 999;takes:999;"), 0, 2, 900);
        cannot("1 ahead of 2, 3, 4", told("land 3 3;drum 0 0 yards 0;may:1=2;"), 0, 5, 1);
        cannot("2 ahead of 3, 4", told("land 3 3;drum 0 0 yards 0;may:1=2;"), 0, 1, 2);
        cannot("3 ahead of 4", told("land 3 3;drum 0 0 yards 0;may:1=2;"), 0, 2, 3);
        RibbonRoads r = Check.told("land 3 3;drum 1 0 yards 9;drum 0 1 yards 9;may:lies=0 and drum=0 or lies=1 and drum=1;");
        due(10, "lies: 0", r.why(0, 3), 0);
        due(10, "lies: 0", r.why(1, 2), 3);
        r.lay(0, 3, true);
        due(10, "lies: 1", r.why(1, 2), 0);
    }

    /** "2: it lies on none; 3: one lies over it there; 4: a TRAVELLER is there on it". */
    private static void back() {
        EDGES.refused(12, "2: it lies on none", EdgesDeedsTest::begun, r -> r.back(3), -12);
        due(12, "one lies over another CELL of it, one under this: it can be", begun().back(0), 18);
        due(12, "none lies over the last", begun().back(2), 18);
        EDGES.refused(12, "3: one lies over it there", () -> {
            RibbonRoads b = begun();
            b.back(2);
            return b;
        }, b -> b.back(2), -13);
        EDGES.refused(12, "3: one lies over it there, TRAVELLERS elsewhere", () -> {
            RibbonRoads b = begun();
            b.back(0);
            return b;
        }, b -> b.back(0), -13);
        EDGES.refused(12, "4: a TRAVELLER is there on it", () -> {
            RibbonRoads b = begun();
            b.turn(5);
            b.back(0);
            return b;
        }, b -> b.back(0), -14);
        due(12, "a TRAVELLER is there, on the other one; on it one is at its DRUM", begun().back(1), 20);
        RibbonRoads r = begun();
        r.back(1);
        due(12, "back whole: it lies on none", r.drum(1, 2), 0);
        due(12, "its END is its DRUM", r.drum(1, 3), 1);
        due(12, "no more", r.back(1), -12);
        due(12, "the other one is the only one", r.cell(5, 1), 1);
        due(12, "the other one is the only one", r.cell(5, 2), 0);
        due(12, "no lower one", r.cell(5, 3), -1);
        r = Check.told("land 6 2;drum 0 0 yards 50;takes:1+wet;");
        for (int wet = 0; wet < 5; wet++) {
            r.rain(wet);
            r.lay(0, 2, true);
        }
        r.rain(9);
        int yards = 35;
        for (int wet = 4; wet >= 0; wet--) {
            yards += 1 + wet;
            due(12, "as many more as that took", r.back(0), yards);
        }
        due(12, "it lies on none", r.back(0), -12);
        r = Check.told("land 3 2;drum 0 0 yards 50;");
        Check.layOver(r, 0, "2");
        r.setOut(0);
        r.hours(1);
        due(12, "who ARRIVED is not there", r.back(0), 50);
        firstCell();
    }

    /** The first cell of all is one as others are. */
    private static void firstCell() {
        Supplier<RibbonRoads> maker = () -> {
            RibbonRoads r = Check.told("land 3 3;drum 1 0 yards 9;drum 0 1 yards 9;");
            Check.layOver(r, 0, "4");
            Check.layOver(r, 1, "1");
            return r;
        };
        EDGES.refused(12, "3: one lies over it there, CELL 0", maker, r -> r.back(0), -13);
        EDGES.refused(13, "3: one lies over it there, CELL 0", maker, r -> r.takeIn(0), -13);
        RibbonRoads r = maker.get();
        due(29, "over it on CELL 0", r.above(0), 2);
        due(31, "over it on CELL 0", r.order(0), 1);
        due(49, "crossings: CELL 0", r.count(4), 1);
        due(49, "RIBBONS that lie, on one CELL each", r.count(5), 2);
        due(15, "TURNED on CELL 0", r.turn(0), 0);
        due(12, "none lies over it any more", r.back(0), 9);
    }

    /** "2: likewise; 3: one lies over it anywhere; 4: a TRAVELLER is on it, at its DRUM, too". */
    private static void takeIn() {
        EDGES.refused(13, "2: it lies on none", EdgesDeedsTest::begun, r -> r.takeIn(3), -12);
        EDGES.refused(13, "3: one lies over its first CELL, ahead of 4", EdgesDeedsTest::begun, r -> r.takeIn(0), -13);
        EDGES.refused(13, "4: a TRAVELLER is at its DRUM", EdgesDeedsTest::begun, r -> r.takeIn(1), -14);
        EDGES.refused(13, "3 ahead of 4: one lies over its first CELL, one is at its DRUM", EdgesDeedsTest::begun, r -> r.takeIn(2), -13);
        for (int under = 0; under < 3; under++) {
            int at = under;
            Supplier<RibbonRoads> maker = () -> {
                RibbonRoads r = Check.told("land 4 3;drum 0 1 yards 20;drum 1 0 yards 20;drum 2 0 yards 20;drum 3 0 yards 20;");
                Check.layOver(r, 0, "222");
                for (int d = 0; d < 3; d++) {
                    r.lay(d + 1, 3, d == at);
                }
                return r;
            };
            EDGES.refused(13, "3: one lies over it anywhere, CELL " + at, maker, r -> r.takeIn(0), -13);
            RibbonRoads r = maker.get();
            r.takeIn(at + 1);
            due(13, "all others lie under it", r.takeIn(0), 20);
            due(13, "it lies on no CELL", r.drum(0, 2), 0);
            due(13, "no YARDS of it lie", r.drum(0, 4), 0);
        }
        RibbonRoads r = begun();
        r.turn(5);
        EDGES.refused(13, "4: a TRAVELLER is on it", () -> {
            RibbonRoads b = begun();
            b.turn(5);
            return b;
        }, b -> b.takeIn(0), -14);
        due(13, "the TRAVELLER on the crossing goes on, as do the others", r.hours(2), 3);
        due(13, "who ARRIVED is on none", r.takeIn(0), 20);
        r = begun();
        r.back(1);
        r.back(0);
        due(13, "TRAVELLERS on other RIBBONS, at other DRUMS hold it not", r.lay(3, 3, true), 18);
        due(13, "TRAVELLERS on other RIBBONS, at other DRUMS hold it not", r.takeIn(3), 20);
        r = Check.told("land 6 6;drum 0 0 yards 16;");
        Check.layOver(r, 0, "2222234444432222");
        due(13, "all 16 CELLS", r.takeIn(0), 16);
        due(13, "nothing lies", r.count(5), 0);
        r = Check.told("land 2 2;drum 0 0 yards 999;takes:99;");
        Check.layOver(r, 0, "23");
        r.rain(3);
        due(13, "all that it took", r.takeIn(0), 999);
    }

    /** "2: it lies on no CELL; 3: there were 8 TRAVELLERS; they are numbered from 0 on". */
    private static void setOut() {
        EDGES.refused(14, "2: it lies on no CELL", EdgesDeedsTest::begun, r -> r.setOut(3), -12);
        Supplier<RibbonRoads> eight = () -> {
            RibbonRoads r = Check.told("land 3 2;drum 0 0 yards 9;drum 0 1 yards 9;");
            Check.layOver(r, 0, "2");
            for (int t = 0; t < 8; t++) {
                due(14, "numbered from 0 on", r.setOut(0), t);
            }
            return r;
        };
        EDGES.refused(14, "3: there were 8", eight, r -> r.setOut(0), -13);
        EDGES.refused(14, "2 ahead of 3", eight, r -> r.setOut(1), -12);
        EDGES.refused(14, "3: there were 8, though all have ARRIVED", () -> {
            RibbonRoads r = eight.get();
            due(17, "all 8 ARRIVED", r.hours(48), 8);
            return r;
        }, r -> r.setOut(0), -13);
        RibbonRoads r = eight.get();
        r.undo(1);
        due(14, "an eighth again", r.setOut(0), 7);
        r = Check.told("land 4 2;drum 0 0 yards 9;");
        Check.layOver(r, 0, "22");
        r.setOut(0);
        r.setOut(0);
        r.hours(1);
        due(8, "the second WAITED", r.traveller(1, 3), 1);
        r.undo(2);
        r.setOut(0);
        due(14, "another second one: it has not WAITED yet", r.traveller(1, 3), 0);
        due(14, "nor gone", r.traveller(1, 1), -1);
        due(14, "nor ARRIVED", r.traveller(1, 2), 0);
    }

    /** "-2: no such CELL; -5: no two lie there". */
    private static void turn() {
        for (int k : new int[] {-1, 12, 36, Integer.MIN_VALUE, Integer.MAX_VALUE}) {
            EDGES.refused(15, "-2: no such CELL " + k, EdgesDeedsTest::begun, r -> r.turn(k), -2);
        }
        for (int k : new int[] {0, 1, 3, 4, 7, 8, 9, 10, 11}) {
            EDGES.refused(15, "-5: no two lie there: " + k, EdgesDeedsTest::begun, r -> r.turn(k), -5);
        }
        RibbonRoads r = begun();
        due(15, "the lower one is the upper one then", r.turn(5), 0);
        due(15, "the upper one is the lower one then", r.cell(5, 3), 1);
        due(15, "turned back", r.turn(5), 1);
        due(15, "on another CELL", r.turn(6), 2);
        due(15, "as it was", r.cell(5, 2), 1);
        r = Check.told("land 6 6;drum 5 4 yards 9;drum 4 5 yards 9;");
        r.lay(0, 3, true);
        due(15, "one lies on the last CELL", r.turn(35), -5);
        r.lay(1, 2, true);
        due(15, "two lie on the last CELL", r.turn(35), 0);
    }

    /** "WET is n (0 to 9)"; "n HOURS (1 to 48)". */
    private static void rainAndHours() {
        for (int n : new int[] {-1, 10, Integer.MIN_VALUE, Integer.MAX_VALUE}) {
            EDGES.refused(16, "WET " + n, EdgesDeedsTest::begun, r -> r.rain(n), -3);
        }
        int was = 1;
        RibbonRoads r = begun();
        for (int n : new int[] {0, 9, 9, 0}) {
            due(16, "what it was", r.rain(n), was);
            due(16, "WET is n", r.count(8), n);
            was = n;
        }
        for (int n : new int[] {-1, 0, 49, Integer.MIN_VALUE, Integer.MAX_VALUE}) {
            EDGES.refused(17, "HOURS " + n, EdgesDeedsTest::begun, b -> b.hours(n), -3);
        }
        r = begun();
        due(17, "1 HOUR", r.hours(1), 2);
        due(17, "HOUR is 1 more", r.count(9), 7);
        r = begun();
        due(17, "48 HOURS", r.hours(48), 3);
        due(17, "HOUR is 48 more", r.count(9), 54);
        r = Check.told("land 2 2;hour 999;");
        due(17, "nobody ARRIVED", r.hours(48), 0);
        due(17, "beyond 999", r.count(9), 1047);
    }

    /** "n calls (1 to 10)"; "-3: n, more than can be"; "10 at most (eldest are forgotten)". */
    private static void undo() {
        for (int n : new int[] {-1, 0, 11, Integer.MIN_VALUE, Integer.MAX_VALUE}) {
            EDGES.refused(18, "n " + n, EdgesDeedsTest::begun, r -> r.undo(n), -3);
        }
        EDGES.refused(18, "none can be", () -> Check.told("land 3 3;drum 0 0 yards 9;"), r -> r.undo(1), -3);
        for (int calls = 1; calls <= 25; calls++) {
            int can = Math.min(calls, 10);
            for (int n = 1; n <= can; n++) {
                RibbonRoads r = rained(calls);
                due(18, "calls that can be", r.count(10), can);
                due(18, "how many still can be", r.undo(n), can - n);
                due(18, "so many can be", r.count(10), can - n);
                due(18, "as it was", r.count(8), (calls - n) % 10);
                due(18, "one more", r.rain(5), (calls - n) % 10);
                due(18, "one more can be", r.count(10), can - n + 1);
            }
            int all = calls;
            EDGES.refused(18, "more than can be of " + calls, () -> rained(all), r -> r.undo(can + 1), -3);
        }
    }

    private static RibbonRoads rained(int calls) {
        RibbonRoads r = Check.told("land 2 2;drum 0 0 yards 3;");
        for (int i = 1; i <= calls; i++) {
            r.rain(i % 10);
        }
        return r;
    }

    /** "Calls that did some can be UNDONE each as a whole": each of them, and no others. */
    private static void undoEach() {
        String before = Seen.land(begun());
        for (int which = 0; which < 8; which++) {
            RibbonRoads r = begun();
            Check.tray(r, 3, 2, 6001, 9009, -1, 1003, 99);
            int done = r.count(10);
            switch (which) {
                case 0 -> r.lay(3, 3, true);
                case 1 -> r.back(0);
                case 2 -> r.setOut(0);
                case 3 -> r.turn(5);
                case 4 -> r.rain(1);
                case 5 -> r.hours(48);
                case 6 -> due(18, "a call of several deeds", r.perform(3), 4);
                default -> due(18, "a call of several deeds", r.season(3, 40) > 1 ? 1 : 0, 1);
            }
            due(18, "one call more, sort " + which, r.count(10), done + 1);
            due(18, "UNDONE as a whole, sort " + which, r.undo(1), done);
            due(18, "all as it was, sort " + which, Seen.land(r).equals(before) ? 1 : 0, 1);
        }
        RibbonRoads r = Check.told("land 3 2;drum 0 0 yards 9;");
        Check.layOver(r, 0, "2");
        r.takeIn(0);
        due(18, "TAKEN IN is UNDONE", r.undo(1), 1);
        due(18, "it lies again", r.cell(1, 2), 0);
        due(18, "its YARDS", r.drum(0, 1), 8);
        r.numbers(0, 0, 3);
        due(18, "a TRAY with nothing that can be", r.perform(0), 0);
        due(18, "a call that did none", r.count(10), 1);
        r.image(0);
        r.numbers(0, 0, 0);
        due(18, "an empty TRAY", r.perform(0), 0);
        due(18, "calls that did none", r.count(10), 1);
        r = Check.told("land 3 2;drum 0 0 yards 9;takes:1+wet;");
        Check.layOver(r, 0, "2");
        r.back(0);
        r.rain(5);
        due(18, "LAID again, wet", r.lay(0, 2, true), 3);
        due(18, "UNDONE", r.undo(3), 1);
        due(18, "YARDS that lie, as it was LAID first", r.drum(0, 4), 1);
        due(18, "BACK: as many more as that took", r.back(0), 9);
    }

    public static void main(String[] args) {
        noSuch();
        edges();
        takenCells();
        mayAndYards();
        back();
        takeIn();
        setOut();
        turn();
        rainAndHours();
        undo();
        undoEach();
        EDGES.end(10, 18);
    }
}
