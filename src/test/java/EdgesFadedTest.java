import java.util.function.Supplier;

/** Boundary cases of promises 41 to 43: faded ribbons. */
public final class EdgesFadedTest {
    private static final Edges EDGES = new Edges("EdgesFadedTest");

    private static void due(int promise, String words, long got, long want) {
        EDGES.due(promise, words, got, want);
    }

    /** 3 by 3 with one drum in the middle of the west edge, and a tray 0 of so many numbers; tray 3 is missing. */
    private static Supplier<RibbonRoads> seen(int sort, long... cells) {
        return () -> {
            RibbonRoads r = Check.told("land 3 3;drum 0 1 yards 9;hour 4;");
            r.image(0);
            r.rain(3);
            Check.tray(r, 0, sort, cells);
            r.feed(0x6c616e64, 0x20322032, 0x3b202020, 0x20202020, 0x20202020);
            return r;
        };
    }

    private static void code(String words, Supplier<RibbonRoads> maker, int tray, int d, int code) {
        EDGES.refused(41, words, maker, r -> r.faded(tray, d), code);
        EDGES.refused(42, words, maker, r -> r.manyFaded(tray, d), code);
        EDGES.refused(43, words, maker, r -> r.look(tray, d), code);
    }

    /** Those that are due for these numbers, how many, and where to look. */
    private static void fades(String words, RibbonRoads r, long cells, int look, long... numbers) {
        Check.tray(r, 0, 2, numbers);
        due(41, words, r.faded(0, 0), cells);
        due(42, words, r.manyFaded(0, 0), Long.bitCount(cells));
        due(43, words, r.look(0, 0), look);
    }

    /** "-2: the TRAY, the DRUM; -6; -4: not 1 to 6 numbers; -3: one is no CELL". */
    private static void codes() {
        for (int tray : new int[] {-1, 4, Integer.MIN_VALUE, Integer.MAX_VALUE}) {
            code("-2: the TRAY " + tray, seen(0, 1), tray, 0, -2);
        }
        for (int d : new int[] {-1, 1, 6, Integer.MIN_VALUE, Integer.MAX_VALUE}) {
            code("-2: the DRUM " + d, seen(0, 1), 0, d, -2);
            code("-2: the DRUM, ahead of -6", seen(0, 1), 3, d, -2);
            code("-2: the DRUM, ahead of -4", seen(0), 0, d, -2);
            code("-2: the DRUM, ahead of -3", seen(0, 9), 0, d, -2);
        }
        for (int tray = 1; tray < 4; tray++) {
            code("-6", seen(0, 1), tray, 0, -6);
        }
        code("-4: no numbers", seen(0), 0, 0, -4);
        code("-4: seven numbers", seen(0, 1, 1, 1, 1, 1, 1, 1), 0, 0, -4);
        code("-4 ahead of -3", seen(0, 9, 9, 9, 9, 9, 9, 9), 0, 0, -4);
        code("-4: forty numbers", seen(0, new long[40]), 0, 0, -4);
        long[] noCells = {-1, 9, 36, 127, -128};
        for (long k : noCells) {
            code("-3: no CELL " + k, seen(0, k), 0, 0, -3);
            code("-3: the last is no CELL " + k, seen(0, 4, 4, 4, 4, 4, k), 0, 0, -3);
            code("-3: the first is no CELL " + k, seen(0, k, 4), 0, 0, -3);
        }
        for (long k : new long[] {1L << 32, (1L << 32) + 4, 64, 68, Long.MIN_VALUE, Long.MAX_VALUE}) {
            code("-3: no CELL " + k, seen(3, k), 0, 0, -3);
        }
        due(41, "no DRUMS", new RibbonRoads().faded(0, 0), -2);
        due(42, "no DRUMS", new RibbonRoads().manyFaded(0, 0), -2);
        due(43, "no DRUMS", new RibbonRoads().look(0, 0), -2);
    }

    /** "1 to 6 numbers, CELLS": the first and the last cell, one and six of them. */
    private static void numbers() {
        // Short ways of the drum on cell 3: 0 by 0; 1 by 0 1; 2 by 0 1 2; 4 by 4; 5 by 4 5; 6 by 6; 7 by 4 7; 8 by 4 5 8.
        RibbonRoads r = seen(0, 1).get();
        fades("one number, the first CELL", r, Check.bits(0, 1, 2), 1, 0);
        fades("one number, the last CELL", r, Check.bits(8), 0, 8);
        fades("six numbers", r, Check.bits(8), 0, 4, 5, 8, 8, 5, 4);
        fades("six like ones", r, Check.bits(4, 5, 7, 8), 5, 4, 4, 4, 4, 4, 4);
        fades("two of one WAY", r, Check.bits(2), 0, 0, 2);
        fades("none comes by both", r, 0, -1, 0, 4);
        fades("none comes by all of six", r, 0, -1, 4, 4, 4, 4, 4, 0);
        fades("where it ends now counts not", r, 0, -1, 3);
        fades("where it ends now counts not, with another", r, 0, -1, 3, 4);
        for (int sort = 0; sort < 4; sort++) {
            Check.tray(r, 0, sort, 8);
            due(41, "numbers of sort " + sort, r.faded(0, 0), Check.bits(8));
        }
        r = Check.told("land 6 6;drum 5 0 yards 0;");
        fades("by the last of 36, YARDS aside, then west: 3 of 6 by 32", r, Check.bits(30, 31, 32, 33, 34, 35), 32, 35);
        Check.tray(r, 0, 0, 36);
        due(41, "no 37th", r.faded(0, 0), -3);
    }

    /** "(its last CELL counts, its first one, where it ends now, not)", and where there is no short way. */
    private static void fromItsEnd() {
        RibbonRoads r = Check.told("land 4 2;rock 2 1;drum 0 0 yards 9;drum 0 1 yards 9;");
        Check.layOver(r, 0, "2");
        fades("where it ends now", r, 0, -1, 1);
        fades("its DRUM", r, 0, -1, 0);
        fades("a rock", r, 0, -1, 6);
        fades("another DRUM", r, 0, -1, 4);
        fades("the next CELL, its last", r, Check.bits(2, 3, 7), 3, 2);
        fades("the farthest", r, Check.bits(7), 0, 7);
        Check.layOver(r, 0, "223");
        fades("nowhere to go: none", r, 0, -1, 7);
        fades("nowhere to go: none", r, 0, -1, 2);
        // Ways of 16 cells at most.
        r = Check.told("land 6 6;drum 0 0 yards 0;may:y=0 or y=2 or y=4 or y=1 and x=5 or y=3 and x=0;");
        fades("the 16th CELL", r, Check.bits(25, 26), 26, 25);
        fades("the 17th", r, 0, -1, 27);
    }

    /** "the lesser number of those that do and of those that don't is greatest), the first. NONE: there are none". */
    private static void look() {
        RibbonRoads r = Check.told("land 6 2;drum 0 0 yards 9;may:y=0;");
        fades("five on a row: by 2 come 4, by 3 3, by 4 2: the first of 2 and 3", r, Check.bits(1, 2, 3, 4, 5), 3, 1);
        fades("four: by 4 come 2", r, Check.bits(2, 3, 4, 5), 4, 2);
        fades("three: by 4 come 2, by 5 1: the first", r, Check.bits(3, 4, 5), 4, 3);
        fades("two: by 5 comes 1", r, Check.bits(4, 5), 5, 4);
        fades("one: the first of all CELLS", r, Check.bits(5), 0, 5);
        r = Check.told("land 6 2;drum 5 0 yards 9;may:y=0;");
        fades("five to the west: by 2 come 3, by 1 2: the first", r, Check.bits(0, 1, 2, 3, 4), 1, 4);
        r = Check.told("land 3 3;drum 1 1 yards 9;");
        fades("the first of like ones", r, Check.bits(0, 1, 2), 0, 1);
        fades("by 2 and by 8 comes one each", r, Check.bits(5, 8), 8, 5);
    }

    public static void main(String[] args) {
        codes();
        numbers();
        fromItsEnd();
        look();
        EDGES.end(41, 43);
    }
}
