/** Boundary cases of a land's text: promises 3 and 4 with the sentences of THE LAND, TOKENS and FAULTS. */
public final class EdgesTextTest {
    private static final Edges EDGES = new Edges("EdgesTextTest");
    private static final String LAND = "land 5 3;";
    private static final String SIX_DRUMS = "drum 0 0 yards 1;drum 1 0 yards 1;drum 2 0 yards 1;drum 3 0 yards 1;"
        + "drum 4 0 yards 1;drum 0 1 yards 1;";

    /** A text without a fault, of so many lines. */
    private static RibbonRoads good(String words, String text, int lines) {
        RibbonRoads r = new RibbonRoads();
        EDGES.due(3, words + ": " + text, Check.tell(r, text), lines);
        EDGES.due(3, words + ", LINES: " + text, r.count(12), lines);
        EDGES.due(4, words + ", no FAULT: " + text, r.fault(0), 0);
        EDGES.due(4, words + ", no place: " + text, r.fault(1), -1);
        return r;
    }

    private static void bad(String words, String text, int kind, int place) {
        RibbonRoads r = new RibbonRoads();
        EDGES.due(3, words + ": " + text, Check.tell(r, text), -30 - kind);
        EDGES.due(4, words + ", FAULT: " + text, r.fault(0), kind);
        EDGES.due(4, words + ", place: " + text, r.fault(1), place);
    }

    /** "a TEXT of at most 900 bytes". */
    private static void wholeTape() {
        String words = "at most 900 bytes";
        String most = "land 2 2;" + "wet 1;".repeat(147);
        RibbonRoads r = good(words, most + "wet    8;", 149);
        EDGES.due(49, "the last of 900 bytes counts", r.count(8), 8);
        bad(words, most + "wet     8", 2, 900);
        bad(words, most + "wet    8:", 2, 899);
        bad("the last word ends with the 900 bytes: the end", most + "      wet", 2, 900);
        bad("the last number ends with the 900 bytes: the end", most + "wet     9", 2, 900);
        bad("the end: the text's length", " ".repeat(900), 2, 900);
        bad("the end: the text's length", "", 2, 0);
        bad("the end: the text's length", " ", 2, 1);
    }

    /** "land: WIDE, HIGH, 2 to 6 each". */
    private static void wideHigh() {
        String words = "WIDE, HIGH, 2 to 6 each";
        for (int wide = 0; wide <= 8; wide++) {
            for (int high = 0; high <= 8; high++) {
                String text = "land " + wide + " " + high + ";";
                boolean wideFits = wide >= 2 && wide <= 6;
                boolean highFits = high >= 2 && high <= 6;
                if (wideFits && highFits) {
                    RibbonRoads r = good(words, text, 1);
                    EDGES.due(3, "WIDE of " + text, r.count(0), wide);
                    EDGES.due(3, "HIGH of " + text, r.count(1), high);
                    EDGES.due(5, "the last CELL of " + text, r.cell(wide * high - 1, 0), 0);
                    EDGES.due(5, "no CELL behind it of " + text, r.cell(wide * high, 0), -2);
                } else {
                    bad(words, text, 3, wideFits ? 7 : 5);
                }
            }
        }
        bad(words, "land 999 2;", 3, 5);
        bad(words, "land 2 999;", 3, 7);
    }

    /** "rock, drum: x, y of a CELL", of a land so wide and so high. */
    private static void cells(int wide, int high) {
        String words = "x, y of a CELL";
        String land = "land " + wide + " " + high + ";";
        for (String line : new String[] {"rock", "drum"}) {
            String behind = line.equals("rock") ? ";" : " yards 3;";
            for (int x = 0; x < 8; x++) {
                for (int y = 0; y < 8; y++) {
                    String text = land + line + " " + x + " " + y + behind;
                    if (x < wide && y < high) {
                        RibbonRoads r = good(words, text, 2);
                        EDGES.due(3, "CELLS by WIDE times y, and x: " + text, r.cell(wide * y + x, 0), line.equals("rock") ? 1 : 2);
                    } else {
                        bad(words, text, 3, x < wide ? 16 : 14);
                    }
                }
            }
            bad(words, land + line + " 999 0" + behind, 3, 14);
            bad(words, land + line + " 0 999" + behind, 3, 16);
        }
    }

    /** "of a CELL that is none of both yet"; "(the y of a CELL that is a rock, a drum)". */
    private static void cellsOfBoth() {
        String words = "a CELL that is none of both yet";
        bad(words, LAND + "rock 4 2;rock 4 2;", 3, 25);
        bad(words, LAND + "rock 4 2;drum 4 2 yards 1;", 3, 25);
        bad(words, LAND + "drum 4 2 yards 1;rock 4 2;", 3, 33);
        bad(words, LAND + "drum 4 2 yards 1;drum 4 2 yards 1;", 3, 33);
        bad(words, LAND + "rock 0 0;rock 0 0;", 3, 25);
        bad("the first along the text: the y ahead of what follows", LAND + "rock 4 2;drum 4 2 silk", 3, 25);
        bad("the first along the text: x ahead of y", LAND + "rock 4 2;rock 5 2;", 3, 23);
        good("another CELL of the row, of the column", LAND + "rock 4 2;rock 3 2;rock 4 1;drum 2 2 yards 0;", 5);
        RibbonRoads full = good("all CELLS are rocks", "land 2 2;rock 0 0;rock 1 0;rock 0 1;rock 1 1;", 5);
        EDGES.due(49, "rocks: all CELLS", full.count(3), 4);
        bad("all CELLS are rocks", "land 2 2;rock 0 0;rock 1 0;rock 0 1;rock 1 1;rock 1 1;", 3, 52);
    }

    /** "yards: 0 to 999"; "wet: 0 to 9 (0)"; "hour: the first one, 0 to 999 (0)". */
    private static void numbers() {
        String[] fit = {"0", "00", "000", "1", "9", "09", "009", "998", "999"};
        for (String n : fit) {
            RibbonRoads r = good("yards: 0 to 999", LAND + "drum 1 1 yards " + n + ";", 2);
            EDGES.due(6, "YARDS it has: " + n, r.drum(0, 1), Integer.parseInt(n));
            r = good("hour: 0 to 999", LAND + "hour " + n + ";", 2);
            EDGES.due(49, "HOUR: " + n, r.count(9), Integer.parseInt(n));
            if (Integer.parseInt(n) <= 9) {
                r = good("wet: 0 to 9", LAND + "wet " + n + ";", 2);
                EDGES.due(49, "WET: " + n, r.count(8), Integer.parseInt(n));
            } else {
                bad("wet: 0 to 9", LAND + "wet " + n + ";", 3, 13);
            }
        }
        bad("wet: 0 to 9", LAND + "wet 10;", 3, 13);
        bad("yards: 0 to 999", LAND + "drum 1 1 yards 1000;", 1, 24);
        bad("hour: 0 to 999", LAND + "hour 1000;", 1, 14);
        bad("wet: 0 to 9", LAND + "wet 1000;", 1, 13);
        RibbonRoads r = good("wet (0), hour (0)", LAND, 1);
        EDGES.due(49, "WET (0)", r.count(8), 0);
        EDGES.due(49, "HOUR (0)", r.count(9), 0);
    }

    /** "drums numbered from 0 on, 6 at most"; "4 the first TOKEN of a 7th drum". */
    private static void sixDrums() {
        RibbonRoads r = good("6 at most", LAND + SIX_DRUMS, 7);
        EDGES.due(49, "DRUMS: 6", r.count(2), 6);
        int[] cells = {0, 1, 2, 3, 4, 5};
        for (int d = 0; d < 6; d++) {
            EDGES.due(6, "drums numbered from 0 on", r.drum(d, 0), cells[d]);
        }
        EDGES.due(6, "no DRUM 6", r.drum(6, 0), -2);
        int seventh = LAND.length() + SIX_DRUMS.length();
        bad("a 7th drum", LAND + SIX_DRUMS + "drum 4 2 yards 1;", 4, seventh);
        bad("its first TOKEN, ahead of its x", LAND + SIX_DRUMS + "drum 5 2 yards 1;", 4, seventh);
        bad("its first TOKEN, ahead of its y", LAND + SIX_DRUMS + "drum 0 0 yards 1;", 4, seventh);
        bad("its first TOKEN, though nothing follows", LAND + SIX_DRUMS + "drum", 4, seventh);
        bad("its first TOKEN, behind blanks", LAND + SIX_DRUMS + " \n drum", 4, seventh + 3);
        good("rocks are none of them", LAND + SIX_DRUMS + "rock 4 2;rock 3 2;", 9);
        good("drum in a law is none of them", LAND + SIX_DRUMS + "takes:drum;may:drum=drum;", 9);
    }

    /** "Later ones of takes, may, wet, hour strike." */
    private static void laterOnes() {
        RibbonRoads r = good("later ones strike", LAND + "drum 0 0 yards 9;wet 9;hour 999;takes:99;may:1=2;"
            + "may:1=1;takes:7;hour 0;wet 0;", 10);
        EDGES.due(49, "the later wet", r.count(8), 0);
        EDGES.due(49, "the later hour", r.count(9), 0);
        EDGES.due(9, "the later takes", r.takes(0, 1), 7);
        EDGES.due(10, "the later may", r.why(0, 2), 0);
        r = good("later ones strike", LAND + "drum 0 0 yards 9;may:1=1;takes:x*2+1;takes:3;takes:2;may:x=x and y=y;may:x=2;", 8);
        EDGES.due(9, "the third takes, which is shorter", r.takes(0, 4), 2);
        EDGES.due(10, "the third may, which is shorter", r.why(0, 2), 3);
        r = good("later ones strike", LAND + "drum 0 0 yards 9;may:not x=1;may:x=1;", 4);
        EDGES.due(10, "nothing is left of a longer may", r.why(0, 2), 0);
        r = good("later ones strike", LAND + "drum 0 0 yards 9;may:x=1 and not x=1;may:x=1;", 4);
        EDGES.due(10, "nothing is left of a longer may", r.why(0, 2), 0);
        r = good("laws strike ahead of drums told behind them", LAND + "takes:5;drum 0 0 yards 4;", 3);
        EDGES.due(10, "laws strike ahead of drums told behind them", r.why(0, 2), 4);
    }

    /** "TOKENS, as long as they go on, between them blanks (10, 32)". */
    private static void blanks() {
        good("no blanks where TOKENS end of themselves", "land5 3;rock4 2;wet9;takes:x+(y*2)-wet;may:not[x=1]or x<2;", 5);
        good("blanks everywhere", "\n \nland\n5 3 \n;\n\n", 1);
        for (int c = 0; c < 256; c++) {
            if (c != 10 && c != 32) {
                boolean digit = c >= '0' && c <= '9';
                boolean known = digit || c >= 'a' && c <= 'z' || ";:+-*()[]=<>".indexOf(c) >= 0;
                // Between the two numbers of land: a digit makes them one of three digits.
                int place = digit ? 5 : 6;
                bad("blanks (10, 32) alone, not " + c, "land 5" + (char) c + "3;", known ? digit ? 3 : 2 : 1, place);
                // Where a LINE begins no sign, no number and no word of one letter can stand.
                bad("no TOKEN begins so: " + c, LAND + (char) c, known ? 2 : 1, 9);
            }
        }
        bad("words go on", "landland 5 3;", 2, 0);
        bad("words go on", "land 5 3;rocks 1 1;", 2, 9);
        bad("words go on", "land 5 3;takes:xx;", 2, 15);
        bad("numbers go on", "land 53;", 3, 5);
        bad("a word ends at a blank", "la nd 5 3;", 2, 0);
        bad("a number ends at a blank", "land 5 3;hour 1 0;", 2, 16);
    }

    /** "The first n bytes of THE TAPE": a token ends with them, whatever stands behind. */
    private static void cutTokens() {
        cut("land 5 3;wet 19;", 14, -32, 14);
        cut("land 5 3;hour 1234;", 17, -32, 17);
        cut("land 5 3;hour 1234;", 18, -31, 14);
        cut("land 53;", 6, -32, 6);
        cut("lands 5 3;", 4, -32, 4);
        cut("lands 5 3;", 5, -32, 0);
        cut("land 5 3;wets 1;", 12, -32, 12);
        cut("land 5 3;wets 1;", 13, -32, 9);
        cut("land 5 3;takes:xy;", 16, -32, 16);
        cut("land 5 3;wet 9;!", 15, 2, -1);
        cut("land 5 3;wet 9;!", 16, -31, 15);
        cut("land 5 3;wet 9;wet 10;", 15, 2, -1);
    }

    private static void cut(String tape, int n, int answer, int place) {
        RibbonRoads r = new RibbonRoads();
        Check.feed(r, tape);
        EDGES.due(3, "the first " + n + " bytes of " + tape, r.land(n), answer);
        EDGES.due(4, "the first " + n + " bytes of " + tape, r.fault(1), place);
    }

    /** "N (1 to 3 digits)"; "1 no TOKEN begins so (4 digits and more: at their first)". */
    private static void digits() {
        good("1 to 3 digits", "land 005 03;", 1);
        bad("4 digits: at their first", "land 0005 3;", 1, 5);
        bad("5 digits: at their first", "land 00005 3;", 1, 5);
        bad("many digits: at their first", "land " + "3".repeat(890) + ";", 1, 5);
        bad("4 digits where no N can stand: the least kind", "1234", 1, 0);
        bad("4 digits where no N can stand: the least kind", LAND + "1234", 1, 9);
        bad("3 digits where no N can stand", LAND + "123", 2, 9);
        bad("4 digits in a law", LAND + "takes:1+1000;", 1, 17);
        good("3 digits in a law", LAND + "takes:1+999;", 2);
        bad("4 digits behind the number that is due", LAND + "wet 1 1234;", 1, 15);
    }

    /** "2 it can't stand there (the end: the text's length; land must be told first, and once; a word of the other law)". */
    private static void places() {
        String whole = "land 5 3;drum 1 2 yards 34;takes:(x);may:[x=1];";
        int[] starts = {0, 5, 7, 8, 9, 14, 16, 18, 24, 26, 27, 32, 33, 34, 35, 36, 37, 40, 41, 42, 43, 44, 45, 46};
        for (int start : starts) {
            boolean line = start == 9 || start == 27 || start == 37;
            if (!line) {
                bad("the end: the text's length", whole.substring(0, start), 2, start);
                bad("the end: the text's length", whole.substring(0, start) + "  \n", 2, start + 3);
            }
            bad("no TOKEN begins so, wherever it stands", whole.substring(0, start) + "!", 1, start);
            bad("a word that is none, wherever it stands", whole.substring(0, start) + " silk", 2, start + 1);
        }
        good("the end behind a LINE", whole.substring(0, 9), 1);
        good("the end behind a LINE", whole.substring(0, 27), 2);
        good("the end behind a LINE", whole.substring(0, 37), 3);
        good("the end behind a LINE", whole, 4);
        for (String line : new String[] {"rock 1 1;", "drum 1 1 yards 1;", "takes:1;", "may:1=1;", "wet 1;", "hour 1;", ";"}) {
            bad("land must be told first", line, 2, 0);
            bad("land must be told first", line + "land 5 3;", 2, 0);
        }
        bad("land must be told once", "land 5 3;land 5 3;", 2, 9);
        bad("land must be told once", "land 5 3;wet 1;land 5 3;", 2, 15);
        bad("an empty LINE", "land 5 3;;", 2, 9);
        String[] tooShort = {"land;", "land 5;", LAND + "rock;", LAND + "rock 1;", LAND + "drum;", LAND + "drum 1;", LAND + "drum 1 1;",
            LAND + "drum 1 1 yards;", LAND + "wet;", LAND + "hour;", LAND + "takes;", LAND + "takes:;", LAND + "may;", LAND + "may:;"};
        for (String text : tooShort) {
            bad("a LINE that ends too early", text, 2, text.length() - 1);
        }
        String[] tooLong = {"land 5 3 1;", LAND + "rock 1 1 1;", LAND + "drum 1 1 yards 1 1;", LAND + "wet 1 1;", LAND + "hour 1 1;",
            LAND + "takes:1 1;", LAND + "may:1=1 1;"};
        for (String text : tooLong) {
            bad("a LINE that ends too late", text, 2, text.length() - 2);
        }
        bad("a LINE without its ;", "land 5 3;wet 1 hour 1;", 2, 15);
        for (String word : new String[] {"lies", "not", "and", "or", "[", "=", "<", ">", "]", "takes", "yards", "land"}) {
            bad("a word of the other law", LAND + "takes:" + word + ";", 2, 15);
        }
        for (String word : new String[] {"lies", "not", "and", "or", "[", "=", "<", ">", "]", "x", "1", "("}) {
            bad("a word of the other law", LAND + "takes:1" + " " + word + ";", 2, 17);
        }
        good("lies in may", LAND + "may:lies=lies;", 2);
        bad("lies in takes behind may", LAND + "may:lies=0;takes:lies;", 2, 26);
        good("lies in may behind takes", LAND + "takes:1;may:lies=0;", 3);
    }

    /** "At most six of not [ ( within one another."; "4 ... a seventh of not [ (". */
    private static void sixWithin() {
        String takes = LAND + "takes:";
        String may = LAND + "may:";
        good("six of (", takes + "((((((x))))));", 2);
        bad("a seventh of (", takes + "(((((((x)))))));", 4, 21);
        bad("an eighth of (: the seventh is first", takes + "((((((((x))))))));", 4, 21);
        bad("a seventh of (, though nothing follows", takes + "(((((((", 4, 21);
        good("six of ( twice beside one another", takes + "((((((x))))))*((((((x))))));", 2);
        good("six of ( within a sum", takes + "1+(1+(1+(1+(1+(1+(1))))));", 2);
        bad("a seventh of ( within a sum", takes + "1+(1+(1+(1+(1+(1+(1+(1)))))));", 4, 35);
        good("six of ( behind closed ones", takes + "(((((1)*(1)+((1))))));", 2);
        bad("a seventh of ( behind closed ones", takes + "(((((1)*(1)+(((1)))))));", 4, 29);
        good("six of not", may + "not not not not not not x=1;", 2);
        bad("a seventh of not", may + "not not not not not not not x=1;", 4, 37);
        good("six of [", may + "[[[[[[x=1]]]]]];", 2);
        bad("a seventh of [", may + "[[[[[[[x=1]]]]]]];", 4, 19);
        good("six of ( in may", may + "((((((x))))))=((((((1))))));", 2);
        bad("a seventh of ( in may", may + "((((((x))))))=(((((((1)))))));", 4, 33);
        good("six of not [ (", may + "not[not[((x))=1]];", 2);
        bad("a seventh of not [ (: (", may + "not[not[(((x)))=1]];", 4, 23);
        bad("a seventh of not [ (: [", may + "not[not[not[[x=1]]]];", 4, 25);
        bad("a seventh of not [ (: not", may + "not[not[not[not x=1]]];", 4, 25);
        good("seven of them beside one another", may + "not x=1 and not x=1 and[x=1]and[x=1]and(x)=1 and(x)=1 or not[(x)=1];", 2);
        good("the sixth closes ahead of the next", may + "[[[[[[x=1]and[x=1]or not x=1 and(x)=1]]]]];", 2);
        bad("the least kind: not can't stand in a sum", takes + "((((((not", 2, 21);
        bad("the least kind: [ can't stand in a sum", may + "((((((x[", 2, 20);
        bad("the least kind: a ( that can't stand there", takes + "((((((x(", 2, 22);
        bad("the least kind: a not that can't stand there", may + "[[[[[[x=1 not", 2, 23);
    }

    /** "BOTH { or BOTH }", "UNIT, [ TRUTH ], or SUM, one of = < >, SUM": what must follow, what may. */
    private static void lawShapes() {
        String takes = LAND + "takes:";
        String may = LAND + "may:";
        bad("an empty law", takes + ";", 2, 15);
        bad("an empty law", may + ";", 2, 13);
        bad("empty brackets", takes + "();", 2, 16);
        bad("empty brackets", may + "[];", 2, 14);
        bad("a sum is no truth", may + "x;", 2, 14);
        bad("a truth is no sum", takes + "x=1;", 2, 16);
        bad("one of = < >, once", may + "x=1=1;", 2, 16);
        bad("one of = < >, once", may + "x<>1;", 2, 15);
        bad("no sign ahead of a sum", takes + "-1;", 2, 15);
        bad("no sign ahead of a sum", may + "x=-1;", 2, 15);
        bad("no two signs", takes + "1+-1;", 2, 17);
        bad("( holds a sum", may + "(x=1);", 2, 15);
        bad("[ holds a truth", may + "[x]=1;", 2, 15);
        bad("[ is closed by ]", may + "[x=1);", 2, 17);
        bad("( is closed by )", takes + "(x];", 2, 17);
        bad("nothing behind or", may + "x=1 or;", 2, 19);
        bad("nothing behind and", may + "x=1 and;", 2, 20);
        bad("nothing behind not", may + "not;", 2, 16);
        bad(": is due", LAND + "takes 1;", 2, 15);
        bad(": is due", LAND + "may 1=1;", 2, 13);
        good("one ATOM", takes + "0;", 2);
        good("one UNIT", may + "0=0;", 2);
    }

    /** "all stays with a FAULT", of every kind; "THE TAPE (which is empty then)". */
    private static void faultsChangeNothing() {
        String[] texts = {"land 3 3;!", "land 3 3;silk;", "land 3 3;wet 99;", "land 6 6;" + SIX_DRUMS + "drum", "",
            "land 2 2;drum 0 0 yards 1;takes:9;may:1=2;wet 9;hour 99;rock 1 1;wet 10;"};
        int[] kinds = {1, 2, 3, 4, 2, 3};
        for (int i = 0; i < texts.length; i++) {
            for (int look = 0; look < 5; look++) {
                RibbonRoads r = begun();
                Check.feed(r, texts[i]);
                EDGES.due(3, "-30 less the FAULT", r.land(texts[i].length()), -30 - kinds[i]);
                EDGES.due(3, "THE TAPE is empty then", r.count(11), 0);
                Seen.LOOKS.get(look).accept(r);
                RibbonRoads like = begun();
                Seen.LOOKS.get(look).accept(like);
                EDGES.due(3, "all stays with FAULT " + kinds[i] + ", look " + look, Seen.land(r).equals(Seen.land(like)) ? 1 : 0, 1);
            }
        }
    }

    private static RibbonRoads begun() {
        RibbonRoads r = Check.told("land 4 3;rock 3 2;drum 0 1 yards 20;drum 1 0 yards 20;takes:1+wet+x;may:x<3;wet 2;hour 7;");
        Check.layOver(r, 0, "22");
        r.image(0);
        Check.layUnder(r, 1, "33");
        r.setOut(0);
        r.hours(1);
        r.image(1);
        r.rain(5);
        return r;
    }

    public static void main(String[] args) {
        wholeTape();
        wideHigh();
        cells(5, 3);
        cells(3, 5);
        cells(2, 6);
        cells(6, 2);
        cells(6, 6);
        cellsOfBoth();
        numbers();
        sixDrums();
        laterOnes();
        blanks();
        cutTokens();
        digits();
        places();
        sixWithin();
        lawShapes();
        faultsChangeNothing();
        EDGES.end(3, 6);
    }
}
