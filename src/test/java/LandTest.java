/** Promises 1 to 9: the land and its text. */
public final class LandTest {
    private static final Check CHECK = new Check("LandTest");

    private static void due(String call, long got, long want) {
        CHECK.due(call, got, want);
    }

    private static void fault(String text, int kind, int place) {
        RibbonRoads r = new RibbonRoads();
        due("land of '" + text + "'", Check.tell(r, text), kind == 0 ? r.count(12) : -30 - kind);
        due("fault(0) of '" + text + "'", r.fault(0), kind);
        due("fault(1) of '" + text + "'", r.fault(1), place);
    }

    private static void newObject() {
        RibbonRoads r = new RibbonRoads();
        int[] counts = {2, 2, 0, 0, 0, 0, 0, 0, 0, 0, 0, 0, 0};
        for (int what = 0; what < counts.length; what++) {
            due("new count(" + what + ")", r.count(what), counts[what]);
        }
        for (int k = 0; k < 4; k++) {
            due("new cell 0", r.cell(k, 0), 0);
            due("new cell 1", r.cell(k, 1), 0);
            due("new cell 2", r.cell(k, 2), -1);
            due("new cell 3", r.cell(k, 3), -1);
            due("new cell 4", r.cell(k, 4), -1);
        }
        due("cell(4, 0)", r.cell(4, 0), -2);
        due("cell(-1, 0)", r.cell(-1, 0), -2);
        due("cell(0, 5)", r.cell(0, 5), -2);
        due("cell(0, -1)", r.cell(0, -1), -2);
        due("fault(0)", r.fault(0), 0);
        due("fault(1)", r.fault(1), -1);
        due("fault(2)", r.fault(2), -1);
        due("fault(-1)", r.fault(-1), -1);
        for (int tray = 0; tray < 4; tray++) {
            due("missing", r.write(tray, 0, 1), -6);
        }
    }

    private static void feeding() {
        RibbonRoads r = new RibbonRoads();
        for (int n = 1; n <= 45; n++) {
            due("feed " + n, r.feed(0x20202020, 0x20202020, 0x20202020, 0x20202020, 0x20202020), 20 * n);
        }
        due("feed 46", r.feed(1, 2, 3, 4, 5), -5);
        due("tape", r.count(11), 900);
        due("land(901)", r.land(901), -3);
        due("land(-1)", r.land(-1), -3);
        due("tape stays", r.count(11), 900);
        due("fault stays", r.fault(0), 0);
        due("land(900)", r.land(900), -32);
        due("at the end", r.fault(1), 900);
        due("tape is empty", r.count(11), 0);
        due("land(0)", r.land(0), -32);
        due("at 0", r.fault(1), 0);
        due("land(1)", r.land(1), -3);
        due("fault of what was read", r.fault(0), 2);
        StringBuilder full = new StringBuilder("land 6 6;");
        while (full.length() + 9 < 900) {
            full.append("wet 1;");
        }
        full.append("wet    9;");
        Check.feed(r, full.toString());
        due("full land", r.land(900), 1 + (900 - 9 - 9) / 6 + 1);
        due("the last line strikes", r.count(8), 9);
        due("no fault", r.fault(0), 0);
        due("no place", r.fault(1), -1);
    }

    private static void faultStays() {
        RibbonRoads r = Check.told("land 3 2;drum 0 0 yards 7;wet 4;hour 12;");
        due("lines", r.count(12), 4);
        due("lay", r.lay(0, 2, true), 6);
        due("setOut", r.setOut(0), 0);
        due("fault", Check.tell(r, "land 4 4;drum 1 1 yards 3;wet 1;silk"), -32);
        due("place", r.fault(1), 32);
        int[] counts = {3, 2, 1, 0, 0, 1, 1, 1, 4, 12, 2, 0, 4};
        for (int what = 0; what < counts.length; what++) {
            due("stays: count(" + what + ")", r.count(what), counts[what]);
        }
        due("land anew", Check.tell(r, "land 2 3;rock 1 1;drum 0 0 yards 5;"), 3);
        int[] anew = {2, 3, 1, 1, 0, 0, 0, 0, 0, 0, 0, 0, 3};
        for (int what = 0; what < anew.length; what++) {
            due("anew: count(" + what + ")", r.count(what), anew[what]);
        }
        due("count(13)", r.count(13), -1);
        due("count(-1)", r.count(-1), -1);
        due("law is gone", r.takes(0, 1), 1);
        due("drum 0", r.drum(0, 1), 5);
        due("undo", r.undo(1), -3);
    }

    private static void faults() {
        fault("land 2 2;", 0, -1);
        fault(" \nland\n2 2\n;\n", 0, -1);
        fault("land2 2;wet9;hour999;rock1 1;", 0, -1);
        fault("land 02 002;", 0, -1);
        fault("", 2, 0);
        fault("   ", 2, 3);
        fault("Land 2 2;", 1, 0);
        fault("land\t2 2;", 1, 4);
        fault("land\r2 2;", 1, 4);
        fault("land 2 2;\u00e9", 1, 9);
        fault("land 2 2;\u0000", 1, 9);
        fault("wet 1;", 2, 0);
        fault("lands 2 2;", 2, 0);
        fault("land 0002 2;", 1, 5);
        fault("land land", 2, 5);
        fault("land 2 2", 2, 8);
        fault("land 2 2  ", 2, 10);
        fault("land 2 1;", 3, 7);
        fault("land 2 7;", 3, 7);
        fault("land 6 6;", 0, -1);
        fault("land 2 2;;", 2, 9);
        fault("land 2 2;land 2 2;", 2, 9);
        fault("land 2 2;yards", 2, 9);
        fault("land 2 2;rock 1;", 2, 15);
        fault("land 3 2;rock 2 2;", 3, 16);
        fault("land 2 3;rock 1 2;rock 2 0;", 3, 23);
        fault("land 2 3;drum 1 2 yards 0;rock 1 2;", 3, 33);
        fault("land 2 3;drum 1 2 yards 999;drum 1 2 yards 1;", 3, 35);
        fault("land 2 3;drum 1 2 yards 1234;", 1, 24);
        fault("land 2 3;drum 1 2 yard 1;", 2, 18);
        fault("land 2 3;drum 1 2 yards 1 1;", 2, 26);
        fault("land 2 2;wet 9;wet 10;", 3, 19);
        fault("land 2 2;wet x;", 2, 13);
        fault("land 2 2;wet 0;hour 0;drum 0 0 yards 0;rock 1 0;", 0, -1);
        fault("land 2 2;hour 999;hour 1000;", 1, 23);
        fault("land 2 2;hour ;", 2, 14);
        String six = "land 6 6;drum 0 0 yards 1;drum 1 0 yards 1;drum 2 0 yards 1;"
            + "drum 3 0 yards 1;drum 4 0 yards 1;drum 5 0 yards 1;";
        fault(six, 0, -1);
        fault(six + "drum", 4, six.length());
        fault(six + "drum 9 9", 4, six.length());
        fault(six + "drums", 2, six.length());
    }

    /** The text ends behind its n bytes, whatever the tape has there; its tokens may all be of one byte. */
    private static void cutTexts() {
        String tape = "land 2 2;wet 12;hour 345;takes:wet;rock 1 1;";
        int[] ends = {2, 4, 6, 8, 9, 11, 12, 14, 15, 16, 18, 20, 22, 23, 27, 30, 32, 33, 34, 35};
        int[] kinds = {2, 2, 2, 2, 0, 2, 2, 2, 3, 3, 3, 3, 3, 3, 3, 3, 3, 3, 3, 3};
        int[] places = {0, 4, 6, 8, -1, 9, 12, 14, 13, 13, 13, 13, 13, 13, 13, 13, 13, 13, 13, 13};
        for (int i = 0; i < ends.length; i++) {
            RibbonRoads r = new RibbonRoads();
            Check.feed(r, tape);
            due("land(" + ends[i] + ")", r.land(ends[i]), kinds[i] == 0 ? 1 : -30 - kinds[i]);
            due("cut at " + ends[i], r.fault(1), places[i]);
        }
        RibbonRoads r = new RibbonRoads();
        Check.feed(r, "land 2 2;wet 1000;");
        due("three digits of four", r.land(16), -33);
        Check.feed(r, "land 2 2;hour 1000;");
        due("three digits of four", r.land(17), -32);
        due("the end", r.fault(1), 17);
        Check.feed(r, "land 2 2;takes:wets;");
        due("the word ends with the text", r.land(18), -32);
        due("the end", r.fault(1), 18);
        fault(";".repeat(900), 2, 0);
        fault("land 2 2;takes:" + "1+".repeat(442) + "1", 2, 900);
        RibbonRoads full = Check.told("land 2 2;drum 0 0 yards 9;takes:" + "1+".repeat(433) + "1;");
        due("434 is 99 at most", full.takes(0, 0), 99);
        full = Check.told("land 2 2;drum 0 0 yards 9;takes:" + "1-1+".repeat(216) + "5;");
        due("5", full.takes(0, 0), 5);
    }

    private static void lawFaults() {
        String t = "land 2 2;takes:";
        fault(t + "x+y*wet-drum;", 0, -1);
        fault(t + "x and y;", 2, 17);
        fault(t + "not x;", 2, 15);
        fault(t + "[x];", 2, 15);
        fault(t + "x = 1;", 2, 17);
        fault(t + "lies;", 2, 15);
        fault(t + "- 1;", 2, 15);
        fault(t + "1 - - 1;", 2, 19);
        fault(t + "1 1;", 2, 17);
        fault(t + "1000;", 1, 15);
        fault(t + "((((((1))))));", 0, -1);
        fault(t + "(((((((1)))))));", 4, 21);
        fault(t + "((((((1))))))+((((((1))))));", 0, -1);
        fault(t + "(1;", 2, 17);
        fault(t + "1);", 2, 16);
        fault(t + "();", 2, 16);
        fault(t + "1*;", 2, 17);
        fault(t + "1*", 2, 17);
        fault("land 2 2;takes 1;", 2, 15);
        String m = "land 2 2;may:";
        fault(m + "lies=0 or x<1 and not y>1;", 0, -1);
        fault(m + "[lies=0 or x<1] and not [y>1];", 0, -1);
        fault(m + "(lies)=(0);", 0, -1);
        fault(m + "(lies=0);", 2, 18);
        fault(m + "[lies]=0;", 2, 18);
        fault(m + "lies;", 2, 17);
        fault(m + "x=1=1;", 2, 16);
        fault(m + "x=1 or;", 2, 19);
        fault(m + "x=1 and or;", 2, 21);
        fault(m + "x=1 not;", 2, 17);
        fault(m + "x==1;", 2, 15);
        fault(m + "takes=1;", 2, 13);
        fault(m + "not not not not not not x=1;", 0, -1);
        fault(m + "not not not not not not (x)=1;", 4, 37);
        fault(m + "not not not not not not not x=1;", 4, 37);
        fault(m + "not[not[not[x=1]]];", 0, -1);
        fault(m + "not[not[not[(x)=1]]];", 4, 25);
        fault(m + "not[not[not[[x=1]]]];", 4, 25);
        fault(m + "not[not[not[x=1]]]and not[not[not[x=1]]];", 0, -1);
        fault(m + "not x=1 and not x=1 or not x=1 and not x=1 and not x=1 and not x=1 and not x=1;", 0, -1);
        fault(m + "[x=1;", 2, 17);
        fault(m + "x=1];", 2, 16);
        fault(m + "notx=1;", 2, 13);
        fault(m + "not x=1", 2, 20);
        fault("land 2 2;may x=1;", 2, 13);
        fault(m + "lies=0;takes:lies;", 2, 26);
        fault(t + "x;may:lies=0;may:x=0;takes:y;", 0, -1);
    }

    private static void cellsAndDrums() {
        RibbonRoads r = Check.told("land 4 3;rock 1 1;drum 0 0 yards 9;drum 3 2 yards 50;takes:1+y;");
        due("rock", r.cell(5, 0), 1);
        due("drum", r.cell(0, 0), 2);
        due("drum", r.cell(11, 0), 2);
        due("none", r.cell(12, 0), -2);
        due("drum 0", r.drum(0, 0), 0);
        due("drum 1", r.drum(1, 0), 11);
        due("drum 2", r.drum(2, 0), -2);
        due("drum -1", r.drum(-1, 0), -2);
        due("drum 0, -1", r.drum(0, -1), -2);
        due("drum 0, 5", r.drum(0, 5), -2);
        due("END at first", r.drum(1, 3), 11);
        Check.layOver(r, 0, "223");
        due("yards", r.drum(0, 1), 9 - 1 - 1 - 2);
        due("cells", r.drum(0, 2), 3);
        due("END", r.drum(0, 3), 6);
        due("yards that lie", r.drum(0, 4), 4);
        due("lies 0", r.lies(0, 0), 1);
        due("lies 1", r.lies(0, 1), 2);
        due("lies 2", r.lies(0, 2), 6);
        due("lies 3", r.lies(0, 3), -1);
        due("lies far", r.lies(0, Integer.MAX_VALUE), -1);
        due("lies -1", r.lies(0, -1), -3);
        due("lies of none", r.lies(2, -1), -2);
        due("only one", r.cell(6, 2), 0);
        due("no lower", r.cell(6, 3), -1);
        Check.layUnder(r, 1, "14");
        due("two", r.cell(6, 1), 2);
        due("upper", r.cell(6, 2), 0);
        due("lower", r.cell(6, 3), 1);
        due("one", r.cell(7, 1), 1);
        due("takes", r.takes(0, 11), 3);
        due("takes on a rock", r.takes(1, 5), 2);
        due("takes of none", r.takes(2, 5), -2);
        due("takes on none", r.takes(1, 12), -2);
        due("takes on -1", r.takes(1, -1), -2);
    }

    private static void travellers() {
        RibbonRoads r = Check.told("land 4 2;drum 0 0 yards 9;");
        Check.layOver(r, 0, "22");
        r.setOut(0);
        r.setOut(0);
        due("at the drum", r.traveller(0, 1), -1);
        due("nobody on the drum's cell", r.cell(0, 4), -1);
        r.hours(1);
        due("road", r.traveller(0, 0), 0);
        due("first goes", r.traveller(0, 1), 0);
        due("second waits at the drum", r.traveller(1, 1), -1);
        due("waited", r.traveller(1, 3), 1);
        due("not waited", r.traveller(0, 3), 0);
        due("on the cell", r.cell(1, 4), 0);
        r.hours(1);
        due("arrived", r.traveller(0, 2), 1);
        due("on none", r.traveller(0, 1), -1);
        due("not arrived", r.traveller(1, 2), 0);
        due("second on the cell", r.cell(1, 4), 1);
        due("none on the last", r.cell(2, 4), -1);
        due("traveller 2", r.traveller(2, 0), -2);
        due("traveller -1", r.traveller(-1, 0), -2);
        due("what 4", r.traveller(0, 4), -2);
        due("what -1", r.traveller(0, -1), -2);
    }

    private static void laws() {
        RibbonRoads r = Check.told("land 6 6;drum 0 0 yards 9;drum 1 0 yards 9;takes:2+x*y-wet*(drum+1);wet 3;");
        due("2+5*5-3*1", r.takes(0, 35), 24);
        due("2+5*5-3*2", r.takes(1, 35), 21);
        due("1 at least", r.takes(1, 0), 1);
        r.rain(9);
        due("2+5*5-9*2", r.takes(1, 35), 9);
        r = Check.told("land 6 6;drum 0 0 yards 9;takes:99+x;");
        due("99", r.takes(0, 0), 99);
        due("99 at most", r.takes(0, 1), 99);
        r = Check.told("land 6 6;drum 0 0 yards 9;takes:10-3-2;");
        due("from the left", r.takes(0, 0), 5);
        r = Check.told("land 6 6;drum 0 0 yards 9;takes:10-(3-2);");
        due("brackets", r.takes(0, 0), 9);
        r = Check.told("land 6 6;drum 0 0 yards 9;takes:2+3*4;");
        due("* binds more", r.takes(0, 0), 14);
        // 998,001 + 998,001 is kept at 1,000,000; less 998,001 that is 1,999.
        r = Check.told("land 6 6;drum 0 0 yards 9;takes:999*999+999*999-999*999-999-998;");
        due("kept above", r.takes(0, 0), 2);
        r = Check.told("land 6 6;drum 0 0 yards 9;takes:(0-999*999-999*999)+999*999+999+999+5;");
        due("kept below", r.takes(0, 0), 4);
        r = Check.told("land 6 6;drum 0 0 yards 9;takes:999*999*999-999*999-999-998;");
        due("a product is kept", r.takes(0, 0), 2);
        r = Check.told("land 6 6;drum 0 0 yards 9;takes:0-(0-999)*999*999-999*999-999-996;");
        due("a product is kept below", r.takes(0, 0), 4);
    }

    private static void mayLaws() {
        // Drum 0 would be laid to x 1, y 0, where nothing lies, while WET is 0.
        String[] hold = {"x=1", "x=1 or y=1", "y=1 or x=1", "not x=2", "not [x=1 and y=1]", "not not x=1",
            "wet=0", "drum=0", "lies=0", "lies<1", "x+y=1", "1=1", "x=2 or x=3 or x=1", "x>0 and y<1 and x<2",
            "x=1 or x=1 and y=1", "1>0-1", "x*x=x", "999*999*999=999*999*2", "[[x=1]]"};
        String[] fail = {"x<1", "x>1", "not x=1", "x=1 and y=1", "y=1 and x=1", "x=2 or x=1 and y=1",
            "[x=1 or x=2] and y=1", "not x=1 and y=1", "not [x=1 or y=1]", "not not x=2", "wet=1", "drum=1",
            "lies=1", "lies>0", "x+y=2", "1=2", "x=2 or x=3 or x=4", "x>0 and y<1 and x<1", "not x=1 or y=1"};
        for (String law : hold) {
            due("may " + law, Check.told("land 4 4;drum 0 0 yards 9;may:" + law + ";").why(0, 2), 0);
        }
        for (String law : fail) {
            due("may " + law, Check.told("land 4 4;drum 0 0 yards 9;may:" + law + ";").why(0, 2), 3);
        }
        RibbonRoads r = Check.told("land 4 4;drum 0 0 yards 9;drum 0 1 yards 9;may:drum=0 or lies=1;");
        due("nothing lies there yet", r.why(1, 2), 3);
        Check.layOver(r, 0, "23");
        due("one lies there", r.why(1, 2), 0);
    }

    public static void main(String[] args) {
        newObject();
        feeding();
        faultStays();
        faults();
        cutTexts();
        lawFaults();
        cellsAndDrums();
        travellers();
        laws();
        mayLaws();
        CHECK.end();
    }
}
