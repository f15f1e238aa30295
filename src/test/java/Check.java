/** Counts answers that are not as due, and tells a land's text to an object. */
final class Check {
    private final String name;
    private int asked;
    private int wrong;

    Check(String name) {
        this.name = name;
    }

    void due(String call, long got, long want) {
        asked++;
        if (got != want) {
            wrong++;
            if (wrong <= 50) {
                System.out.println(name + ": " + call + " answered " + got + ", due is " + want);
            }
        }
    }

    int wrong() {
        return wrong;
    }

    void end() {
        System.out.println(name + ": " + asked + " answers, " + wrong + " not as due");
        if (asked == 0 || wrong != 0) {
            System.exit(1);
        }
    }

    /** Feeds bytes, with blanks behind them up to the next twenty. */
    static void feed(RibbonRoads r, String text) {
        for (int at = 0; at < text.length(); at += 20) {
            int[] five = new int[5];
            for (int i = 0; i < 20; i++) {
                int c = at + i < text.length() ? text.charAt(at + i) : ' ';
                five[i / 4] = five[i / 4] << 8 | c & 255;
            }
            r.feed(five[0], five[1], five[2], five[3], five[4]);
        }
    }

    static int tell(RibbonRoads r, String text) {
        feed(r, text);
        return r.land(text.length());
    }

    static RibbonRoads told(String text) {
        RibbonRoads r = new RibbonRoads();
        if (tell(r, text) < 0) {
            throw new IllegalStateException("fault " + r.fault(0) + " at " + r.fault(1) + " of " + text);
        }
        return r;
    }

    /** Lays a ribbon by turns told as digits, over all that lies there. */
    static void layOver(RibbonRoads r, int d, String turns) {
        layAll(r, d, turns, true);
    }

    static void layUnder(RibbonRoads r, int d, String turns) {
        layAll(r, d, turns, false);
    }

    private static void layAll(RibbonRoads r, int d, String turns, boolean over) {
        for (char turn : turns.toCharArray()) {
            int answer = r.lay(d, turn - '0', over);
            if (answer < 0) {
                throw new IllegalStateException("drum " + d + " by " + turns + ": " + answer);
            }
        }
    }

    static void tray(RibbonRoads r, int tray, int sort, long... values) {
        r.numbers(tray, sort, values.length);
        for (int i = 0; i < values.length; i++) {
            r.write(tray, i, values[i]);
        }
    }

    static long bits(int... places) {
        long all = 0;
        for (int place : places) {
            all |= 1L << place;
        }
        return all;
    }
}
