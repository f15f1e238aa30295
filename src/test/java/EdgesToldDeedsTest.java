import java.util.function.Supplier;

/** Boundary cases of promises 19 to 21: deeds told in a tray, seasons by draws. */
public final class EdgesToldDeedsTest {
    private static final Edges EDGES = new Edges("EdgesToldDeedsTest");
    private static final int[] NO_TRAYS = {-1, 4, Integer.MIN_VALUE, Integer.MAX_VALUE};
    private static final int[] NO_WHATS = {-1, 4, Integer.MIN_VALUE, Integer.MAX_VALUE};

    private static void due(int promise, String words, long got, long want) {
        EDGES.due(promise, words, got, want);
    }

    /** Each of the two drums can be laid by every turn; trays 0, 1 and 2 are there, 3 is missing. */
    private static RibbonRoads begun() {
        RibbonRoads r = Check.told("land 4 4;drum 1 1 yards 9;drum 2 2 yards 9;hour 3;");
        r.image(0);
        r.rain(2);
        r.numbers(0, 2, 1);
        r.numbers(1, 0, 0);
        Check.tray(r, 2, 1, -1, 13);
        r.feed(0x6c616e64, 0x20322032, 0x3b202020, 0x20202020, 0x20202020);
        return r;
    }

    /** Why a deed alone can't be behind begun(), by the words of the document. */
    private static int whyAlone(long v) {
        if (v == -1 || v >= 9000 && v <= 9009) {
            return 0;
        }
        if (v >= 6000 && v < 9000) {
            return v % 1000 <= 1 ? 2 : 1;
        }
        if (v < 0 || v >= 6000 || v / 100 % 10 > 0 || v / 10 % 10 > 1) {
            return 1;
        }
        return v / 1000 <= 1 && v % 10 >= 1 && v % 10 <= 4 ? 0 : 1;
    }

    /** "DEEDS in a TRAY: 0 to 5999 ... 6000 and a DRUM ... NONE: an HOUR. Other numbers ...: 1." Every number from -200 to 10,200. */
    private static void everyNumber() {
        RibbonRoads r = begun();
        for (int v = -200; v <= 10200; v++) {
            // An object is used for 512 calls.
            r = v % 100 == 0 ? begun() : r;
            r.write(0, 0, v);
            int why = whyAlone(v);
            due(19, "why of deed " + v, r.judge(0, 1), why);
            due(19, "place of deed " + v, r.judge(0, 0), why == 0 ? -1 : 0);
            due(19, "HOUR behind deed " + v, r.judge(0, 3), v == -1 ? 4 : 3);
            boolean laid = why == 0 && v >= 0 && v < 6000;
            due(19, "YARDS behind deed " + v, r.judge(0, 2), laid ? 17 : 18);
        }
        long[] far = {1L << 32, (1L << 32) + 3, (1L << 32) - 1, -(1L << 32) - 1, (1L << 63) + 3, Long.MIN_VALUE, Long.MAX_VALUE,
            (1L << 32) + 9000, Integer.MIN_VALUE, Integer.MAX_VALUE};
        for (long v : far) {
            r = begun();
            r.numbers(0, 3, 1);
            r.write(0, 0, v);
            due(19, "other numbers: " + v, r.judge(0, 1), 1);
            due(20, "other numbers: " + v, r.perform(0), 0);
        }
    }

    /** "over, if v by 10 modulo 10 is 1, under, if it is 0"; "WET is that less 9000"; BACK, TAKEN IN, SETS OUT. */
    private static void whatIsDone() {
        RibbonRoads r = begun();
        Check.tray(r, 0, 2, 2, 1011);
        due(20, "over", r.perform(0), 2);
        due(20, "over", r.cell(6, 2), 1);
        r = begun();
        Check.tray(r, 0, 2, 12, 1001);
        due(20, "under", r.perform(0), 2);
        due(20, "under", r.cell(6, 2), 0);
        due(20, "under", r.cell(6, 3), 1);
        for (int wet = 0; wet <= 9; wet++) {
            r = begun();
            Check.tray(r, 0, 2, 9000 + wet);
            due(20, "9000 to 9009", r.perform(0), 1);
            due(20, "WET is that less 9000", r.count(8), wet);
        }
        r = begun();
        Check.tray(r, 0, 2, 3, 3, 6000, 1003, 7001, 8000);
        due(20, "BACK, TAKEN IN, SETS OUT", r.perform(0), 6);
        due(20, "6000 and a DRUM", r.drum(0, 2), 1);
        due(20, "7000 and a DRUM", r.drum(1, 2), 0);
        due(20, "8000 and a DRUM", r.traveller(0, 0), 0);
        due(20, "one call", r.count(10), 2);
        String six = "land 6 6;drum 0 0 yards 5;drum 1 0 yards 5;drum 2 0 yards 5;drum 3 0 yards 5;drum 4 0 yards 5;drum 5 0 yards 5;";
        r = Check.told(six);
        Check.tray(r, 0, 1, 5003, 5013, 6005, 8005, 7005);
        due(19, "the sixth DRUM", r.judge(0, 0), 4);
        due(19, "the sixth DRUM: one is at it", r.judge(0, 1), 4);
        due(19, "YARDS of all six", r.judge(0, 2), 29);
        due(20, "the sixth DRUM", r.perform(0), 4);
        due(20, "the sixth DRUM", r.drum(5, 3), 11);
        Check.tray(r, 0, 1, 6006);
        due(19, "no seventh", r.judge(0, 1), 1);
    }

    /** Promise 19: "the first place that can't be (NONE), 1: why (0)"; "-2: the TRAY, what; -6". */
    private static void judge() {
        for (int tray : NO_TRAYS) {
            for (int what = -1; what <= 4; what++) {
                int asked = what;
                EDGES.refused(19, "-2: the TRAY " + tray, EdgesToldDeedsTest::begun, r -> r.judge(tray, asked), -2);
            }
        }
        for (int what : NO_WHATS) {
            EDGES.refused(19, "-2: what " + what, EdgesToldDeedsTest::begun, r -> r.judge(0, what), -2);
            EDGES.refused(19, "-2 ahead of -6", EdgesToldDeedsTest::begun, r -> r.judge(3, what), -2);
        }
        for (int what = 0; what < 4; what++) {
            int asked = what;
            EDGES.refused(19, "-6", EdgesToldDeedsTest::begun, r -> r.judge(3, asked), -6);
            int[] empty = {-1, 0, 18, 3};
            EDGES.refused(19, "an empty TRAY, what " + what, EdgesToldDeedsTest::begun, r -> r.judge(1, asked), empty[what]);
            int[] two = {-1, 0, 17, 4};
            EDGES.refused(19, "as if done, what " + what, EdgesToldDeedsTest::begun, r -> r.judge(2, asked), two[what]);
        }
        for (int place = 0; place < 40; place++) {
            RibbonRoads r = begun();
            r.numbers(0, 1, 40);
            for (int i = 0; i < 40; i++) {
                r.write(0, i, i == place ? 7000 : -1);
            }
            due(19, "the first place that can't be", r.judge(0, 0), place);
            due(19, "why", r.judge(0, 1), 2);
            due(19, "HOUR then", r.judge(0, 3), 3 + place);
            due(20, "till one can't be", r.perform(0), place);
            due(20, "HOUR then", r.count(9), 3 + place);
        }
        RibbonRoads r = begun();
        Check.tray(r, 0, 1, 13, 99, 13, 12);
        due(19, "the first of two places", r.judge(0, 0), 1);
        due(19, "YARDS then: what is behind is not done", r.judge(0, 2), 17);
    }

    /** Promise 20: "They are done, till one can't be: how many. -2; -6". */
    private static void perform() {
        for (int tray : NO_TRAYS) {
            EDGES.refused(20, "-2: the TRAY " + tray, EdgesToldDeedsTest::begun, r -> r.perform(tray), -2);
        }
        EDGES.refused(20, "-6", EdgesToldDeedsTest::begun, r -> r.perform(3), -6);
        EDGES.refused(20, "an empty TRAY", EdgesToldDeedsTest::begun, r -> r.perform(1), 0);
        EDGES.refused(20, "the first can't be", EdgesToldDeedsTest::begun, r -> r.perform(0), 0);
        RibbonRoads r = begun();
        r.numbers(0, 1, 40);
        for (int i = 0; i < 40; i++) {
            r.write(0, i, -1);
        }
        due(20, "all 40", r.perform(0), 40);
        due(20, "HOUR", r.count(9), 43);
        due(20, "UNDONE as a whole", r.undo(1), 1);
        due(20, "HOUR", r.count(9), 3);
        r.write(0, 39, -2);
        due(20, "39", r.perform(0), 39);
        for (int i = 0; i < 12; i++) {
            due(20, "again and again", r.perform(0), 39);
        }
        due(20, "10 at most can be UNDONE", r.count(10), 10);
        due(20, "the eldest are forgotten", r.undo(10), 0);
        due(20, "HOUR", r.count(9), 3 + 3 * 39);
    }

    private static int x;

    private static int draw(int modulo) {
        x = 1103515245 * x + 12345;
        return (x >>> 16) % modulo;
    }

    /** A season's deeds one by one, each told in a tray of one number: how many could be. */
    private static int byHand(RibbonRoads r, int seed, int times) {
        x = seed;
        int done = 0;
        int drums = r.count(2);
        r.numbers(3, 2, 1);
        for (int i = 0; i < times; i++) {
            int sort = draw(6);
            long deed = -1;
            if (sort != 3) {
                int d = draw(drums);
                deed = sort == 4 ? 8000 + d : sort == 5 ? 7000 + d : 1000 * d + 1 + draw(4) + 10 * draw(2);
            }
            r.write(3, 0, deed);
            done += r.perform(3);
        }
        return done;
    }

    /** Promise 21: "A SEASON by a SEED (x, an int ...): so many times (1 to 40)"; "-3: how many times; -5: no DRUMS". */
    private static void season() {
        for (int times : new int[] {-1, 0, 41, Integer.MIN_VALUE, Integer.MAX_VALUE}) {
            EDGES.refused(21, "-3: how many times: " + times, EdgesToldDeedsTest::begun, r -> r.season(7, times), -3);
            due(21, "-3 ahead of -5", new RibbonRoads().season(7, times), -3);
        }
        Supplier<RibbonRoads> bare = () -> Check.told("land 3 3;wet 4;");
        EDGES.refused(21, "-5: no DRUMS", bare, r -> r.season(7, 1), -5);
        EDGES.refused(21, "-5: no DRUMS", bare, r -> r.season(7, 40), -5);
        String[] texts = {"land 2 2;drum 0 0 yards 2;", "land 4 4;drum 1 1 yards 9;drum 2 2 yards 9;drum 1 2 yards 9;",
            "land 6 6;drum 1 1 yards 99;drum 4 4 yards 99;drum 1 4 yards 99;drum 4 1 yards 99;drum 2 3 yards 99;drum 3 2 yards 99;"};
        int[] seeds = {0, 1, -1, Integer.MIN_VALUE, Integer.MAX_VALUE, 65535, 65536, -65536, 123456789, -987654321, 2147480000};
        for (String text : texts) {
            for (int seed : seeds) {
                for (int times : new int[] {1, 2, 39, 40}) {
                    RibbonRoads r = Check.told(text);
                    RibbonRoads hand = Check.told(text);
                    int could = byHand(hand, seed, times);
                    due(21, "how many could be", r.season(seed, times), could);
                    due(21, "one call, if some could be", r.count(10), could > 0 ? 1 : 0);
                    due(21, "as told in a TRAY", stateOf(r).equals(stateOf(hand)) ? 1 : 0, 1);
                }
            }
        }
        none();
    }

    /** A season in which nothing could be is no call that did some. */
    private static void none() {
        for (int seed = 0; seed < 200; seed++) {
            RibbonRoads r = Check.told("land 2 2;drum 0 0 yards 0;");
            x = seed;
            boolean hour = draw(6) == 3;
            due(21, "but an HOUR nothing could be", r.season(seed, 1), hour ? 1 : 0);
            due(21, "a call that did none can't be UNDONE", r.count(10), hour ? 1 : 0);
            due(21, "HOUR", r.count(9), hour ? 1 : 0);
        }
    }

    private static String stateOf(RibbonRoads r) {
        StringBuilder all = new StringBuilder();
        for (int what = 0; what < 10; what++) {
            all.append(r.count(what)).append(' ');
        }
        for (int k = 0; k < r.count(0) * r.count(1); k++) {
            all.append(r.cell(k, 2)).append(' ').append(r.cell(k, 3)).append(' ').append(r.cell(k, 4)).append(' ');
        }
        for (int t = 0; t < r.count(6); t++) {
            all.append(r.traveller(t, 0)).append(' ').append(r.traveller(t, 1)).append(' ').append(r.traveller(t, 3)).append(' ');
        }
        return all.toString();
    }

    public static void main(String[] args) {
        everyNumber();
        whatIsDone();
        judge();
        perform();
        season();
        EDGES.end(19, 21);
    }
}
