/** Promises 44 to 49: trays, images, counts. */
public final class TraysImagesTest {
    private static final Check CHECK = new Check("TraysImagesTest");

    private static void due(String call, long got, long want) {
        CHECK.due(call, got, want);
    }

    private static void trays() {
        RibbonRoads r = new RibbonRoads();
        due("tray 4", r.numbers(4, 0, 1), -2);
        due("tray -1", r.numbers(-1, 0, 1), -2);
        due("sort 4", r.numbers(0, 4, 1), -2);
        due("sort -1", r.numbers(0, -1, 41), -2);
        due("41", r.numbers(0, 0, 41), -3);
        due("-1", r.numbers(0, 0, -1), -3);
        due("still missing", r.write(0, 0, 1), -6);
        due("none such", r.write(4, 0, 1), -2);
        due("none such", r.write(-1, 0, 1), -2);
        due("0", r.numbers(0, 0, 0), 0);
        due("no place", r.write(0, 0, 1), -7);
        due("40", r.numbers(3, 3, 40), 0);
        due("place 39", r.write(3, 39, 5), 5);
        due("place 40", r.write(3, 40, 5), -7);
        due("place -1", r.write(3, -1, 5), -7);
        long[] values = {0, 1, -1, 127, 128, 255, 256, -129, 32768, -32769, 65535, 1L << 31, 1L << 32, (1L << 32) - 1,
            Long.MIN_VALUE, Long.MAX_VALUE, 0x123456789abcdef0L};
        for (long v : values) {
            for (int sort = 0; sort < 4; sort++) {
                r.numbers(1, sort, 1);
                long cut = sort == 0 ? (byte) v : sort == 1 ? (short) v : sort == 2 ? (int) v : v;
                due("sort " + sort + " of " + v, r.write(1, 0, v), cut);
            }
        }
        r = Check.told("land 3 2;drum 0 0 yards 9;");
        Check.tray(r, 2, 2, 8, 8);
        due("-3: the tray stays", r.numbers(2, 0, 99), -3);
        due("no such deed as 8", r.judge(2, 1), 1);
        due("anew", r.numbers(2, 2, 1), 0);
        due("cell 0 at first", r.faded(2, 0), 0);
        due("all 0", r.judge(2, 1), 1);
        Check.tray(r, 2, 2, 1, 1, 1);
        due("cell 1", r.faded(2, 0), Check.bits(1, 2, 4, 5));
        due("in place of another one", r.numbers(2, 3, 2), 0);
        due("all 0 again", r.faded(2, 0), 0);
    }

    private static void listing() {
        RibbonRoads r = Check.told("land 4 4;drum 3 3 yards 9;drum 1 1 yards 9;rock 0 0;");
        due("missing", r.lists(0, 1, 15), -6);
        r.numbers(0, 1, 2);
        due("no tray", r.lists(4, 1, 3), -2);
        due("no tray", r.lists(-1, 1, 3), -2);
        due("no drum", r.lists(0, 2, 3), -2);
        due("no drum first", r.lists(1, 2, 3), -2);
        due("no cell", r.lists(0, 1, 16), -2);
        due("no cell", r.lists(0, 1, -1), -2);
        due("a rock", r.lists(0, 1, 0), -5);
        due("END", r.lists(0, 1, 5), 0);
        due("as far as it has places", r.lists(0, 1, 12), 2);
        due("done", r.perform(0), 2);
        due("laid", r.drum(1, 3), 13);
        r.undo(1);
        r.numbers(0, 2, 10);
        for (int i = 0; i < 10; i++) {
            r.write(0, i, -1);
        }
        due("three", r.lists(0, 1, 12), 3);
        due("others stay: hours", r.perform(0), 10);
        due("there", r.drum(1, 3), 12);
        due("seven hours", r.count(9), 7);
        r.undo(1);
        r.numbers(0, 0, 2);
        due("8 bits", r.lists(0, 1, 2), 2);
        due("cut to the sort: 1011 is -13", r.judge(0, 1), 1);
        // Laid over all that lies.
        r = Check.told("land 4 2;drum 0 0 yards 9;drum 1 1 yards 9;");
        Check.layOver(r, 1, "1");
        r.numbers(0, 1, 4);
        due("two", r.lists(0, 0, 2), 2);
        r.perform(0);
        due("all done till what is no deed", r.drum(0, 3), 2);
        due("over", r.cell(1, 2), 0);
        due("under", r.cell(1, 3), 1);
    }

    private static void images() {
        RibbonRoads r = Check.told("land 4 3;drum 0 0 yards 20;drum 0 1 yards 20;takes:1+wet;may:x<3;wet 2;hour 40;");
        due("none such", r.image(2), -2);
        due("none such", r.image(-1), -2);
        due("none such", r.restore(2), -2);
        due("none such", r.restore(-1), -2);
        due("none made", r.restore(0), -5);
        Check.layOver(r, 0, "22");
        r.setOut(0);
        r.setOut(0);
        r.hours(1);
        r.rain(1);
        due("made", r.image(1), 0);
        due("the other one is not", r.restore(0), -5);
        due("calls can still be undone", r.count(10), 6);
        due("undone", r.undo(1), 5);
        r.takeIn(0);
        r.hours(10);
        due("in", r.takeIn(0), 20);
        due("another land", Check.tell(r, "land 2 2;rock 1 1;drum 0 0 yards 1;"), 3);
        r.lay(0, 2, true);
        Check.feed(r, "wet");
        Check.tray(r, 0, 3, 5);
        due("fault of another", r.fault(0), 0);
        due("restored", r.restore(1), 0);
        int[] counts = {4, 3, 2, 0, 0, 1, 2, 2, 1, 41, 0, 20, 7};
        for (int what = 0; what < counts.length; what++) {
            due("restored: count(" + what + ")", r.count(what), counts[what]);
        }
        due("nothing can be undone", r.undo(1), -3);
        due("yards", r.drum(0, 1), 14);
        due("yards that lie", r.drum(0, 4), 6);
        due("laws", r.takes(0, 4), 2);
        due("laws", r.why(0, 2), 3);
        due("traveller", r.traveller(0, 1), 0);
        due("traveller", r.traveller(1, 3), 1);
        due("no rock", r.cell(3, 0), 0);
        due("trays stay", r.write(0, 1, 1), -7);
        due("trays stay", r.faded(0, 0), Check.bits(5));
        due("an image stays as it is", r.hours(2), 2);
        due("again", r.restore(1), 0);
        due("as it was", r.count(7), 2);
        due("another", r.image(0), 0);
        r.hours(5);
        due("in place of", r.image(1), 0);
        due("0", r.restore(0), 0);
        due("0 as it was", r.count(9), 41);
        due("1", r.restore(1), 0);
        due("1 as it was", r.count(9), 46);
        RibbonRoads bare = new RibbonRoads();
        bare.image(0);
        Check.tell(bare, "land 3 3;drum 0 0 yards 1;");
        due("bare", bare.restore(0), 0);
        due("no drums", bare.count(2), 0);
        due("no lines", bare.count(12), 0);
        due("wide", bare.count(0), 2);
    }

    private static void counts() {
        RibbonRoads r = Check.told("land 5 3;rock 4 2;rock 4 1;drum 0 1 yards 20;drum 1 0 yards 20;drum 4 0 yards 20;wet 5;hour 3;");
        Check.layOver(r, 0, "222");
        Check.layOver(r, 1, "33");
        r.setOut(1);
        r.setOut(0);
        r.hours(2);
        r.feed(1, 2, 3, 4, 5);
        r.feed(1, 2, 3, 4, 5);
        int[] counts = {5, 3, 3, 2, 1, 2, 2, 1, 5, 5, 8, 40, 8};
        for (int what = 0; what < counts.length; what++) {
            due("count(" + what + ")", r.count(what), counts[what]);
        }
        due("13", r.count(13), -1);
        due("-1", r.count(-1), -1);
        due("far", r.count(Integer.MIN_VALUE), -1);
        due("NONE", RibbonRoads.NONE, -1);
    }

    public static void main(String[] args) {
        trays();
        listing();
        images();
        counts();
        CHECK.end();
    }
}
