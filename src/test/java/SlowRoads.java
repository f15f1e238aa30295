import java.util.ArrayDeque;
import java.util.ArrayList;
import java.util.Arrays;
import java.util.Deque;
import java.util.HashMap;
import java.util.HashSet;
import java.util.List;
import java.util.Map;
import java.util.Set;
import java.util.function.Predicate;
import java.util.regex.Matcher;
import java.util.regex.Pattern;

/**
 * A second program of the same document, written for plainness and not for speed: it tries all ways, all orders
 * and all sets of crossings one by one. It is fit for small lands, or larger ones that are mostly rock.
 */
final class SlowRoads {
    private static final int[][] STEPS = {{0, 0}, {0, -1}, {1, 0}, {0, 1}, {-1, 0}};

    /** Where a law is asked. */
    record Place(int x, int y, int wet, int drum, int lies) { }

    interface Sum {
        int at(Place p);
    }

    static final class Fault extends RuntimeException {
        private static final long serialVersionUID = 1L;
        final int kind;
        final int place;

        Fault(int kind, int place) {
            this.kind = kind;
            this.place = place;
        }
    }

    static final class Land {
        int wide = 2;
        int high = 2;
        int lines;
        int wet;
        int hour;
        final Set<Integer> rocks = new HashSet<>();
        final List<Integer> drums = new ArrayList<>();
        final List<Integer> yards = new ArrayList<>();
        Sum takes = p -> 1;
        Predicate<Place> may = p -> true;
    }

    record Laid(int cell, int yards) { }

    static final class Traveller {
        int drum;
        int place = -1;
        boolean arrived;
        int waited;
    }

    static final class World {
        final List<List<Laid>> ribbons = new ArrayList<>();
        final List<Integer> yards = new ArrayList<>();
        // Ribbons on a cell, from below.
        final Map<Integer, List<Integer>> piles = new HashMap<>();
        final List<Traveller> travellers = new ArrayList<>();
        int wet;
        int hour;

        static World of(Land land) {
            World w = new World();
            for (int y : land.yards) {
                w.yards.add(y);
                w.ribbons.add(new ArrayList<>());
            }
            w.wet = land.wet;
            w.hour = land.hour;
            return w;
        }

        World copy() {
            World w = new World();
            ribbons.forEach(r -> w.ribbons.add(new ArrayList<>(r)));
            w.yards.addAll(yards);
            piles.forEach((k, p) -> w.piles.put(k, new ArrayList<>(p)));
            for (Traveller t : travellers) {
                Traveller c = new Traveller();
                c.drum = t.drum;
                c.place = t.place;
                c.arrived = t.arrived;
                c.waited = t.waited;
                w.travellers.add(c);
            }
            w.wet = wet;
            w.hour = hour;
            return w;
        }

        List<Integer> pile(int k) {
            return piles.computeIfAbsent(k, x -> new ArrayList<>());
        }
    }

    record Saved(Land land, World world) { }

    record Way(List<Integer> turns, List<Integer> cells, int yards) { }

    private final StringBuilder tape = new StringBuilder();
    private int faultKind;
    private int faultPlace = -1;
    private Land land = new Land();
    private World world = World.of(land);
    private final Deque<World> past = new ArrayDeque<>();
    private final long[][] trays = new long[4][];
    private final int[] sorts = new int[4];
    private final Saved[] images = new Saved[2];

    // ---- the text

    private static final Pattern TOKEN = Pattern.compile("[a-z]+|[0-9]+|[;:+*()\\[\\]=<>-]");

    private static final class Text {
        final String text;
        int at;
        String token;
        int place;
        boolean may;
        final Land land = new Land();

        Text(String text) {
            this.text = text;
            next();
        }

        void next() {
            while (at < text.length() && (text.charAt(at) == ' ' || text.charAt(at) == '\n')) {
                at++;
            }
            place = at;
            if (at == text.length()) {
                token = "";
                return;
            }
            Matcher m = TOKEN.matcher(text).region(at, text.length());
            if (!m.lookingAt() || m.group().matches("[0-9]{4,}")) {
                token = "?";
                return;
            }
            token = m.group();
            at = m.end();
        }

        Fault fault(int kind) {
            return new Fault(token.equals("?") ? 1 : kind, token.isEmpty() ? text.length() : place);
        }

        void expect(String word) {
            if (!token.equals(word)) {
                throw fault(2);
            }
            next();
        }

        int number(Predicate<Integer> fits) {
            if (!token.matches("[0-9]+")) {
                throw fault(2);
            }
            int n = Integer.parseInt(token);
            if (!fits.test(n)) {
                throw fault(3);
            }
            next();
            return n;
        }

        int emptyCell() {
            int x = number(n -> n < land.wide);
            int y = number(n -> n < land.high
                && !land.rocks.contains(n * land.wide + x) && !land.drums.contains(n * land.wide + x));
            return y * land.wide + x;
        }

        Land read() {
            expect("land");
            land.wide = number(n -> n >= 2 && n <= 6);
            land.high = number(n -> n >= 2 && n <= 6);
            expect(";");
            land.lines = 1;
            while (!token.isEmpty()) {
                line();
                expect(";");
                land.lines++;
            }
            return land;
        }

        void line() {
            switch (token) {
                case "rock" -> {
                    next();
                    land.rocks.add(emptyCell());
                }
                case "drum" -> {
                    if (land.drums.size() == 6) {
                        throw fault(4);
                    }
                    next();
                    int k = emptyCell();
                    expect("yards");
                    land.yards.add(number(n -> true));
                    land.drums.add(k);
                }
                case "takes" -> {
                    next();
                    expect(":");
                    may = false;
                    Sum sum = sum(0);
                    land.takes = p -> Math.max(1, Math.min(99, sum.at(p)));
                }
                case "may" -> {
                    next();
                    expect(":");
                    may = true;
                    land.may = truth(0);
                }
                case "wet" -> {
                    next();
                    land.wet = number(n -> n <= 9);
                }
                case "hour" -> {
                    next();
                    land.hour = number(n -> true);
                }
                default -> throw fault(2);
            }
        }

        Predicate<Place> truth(int nested) {
            Predicate<Place> left = both(nested);
            while (token.equals("or")) {
                next();
                left = left.or(both(nested));
            }
            return left;
        }

        Predicate<Place> both(int nested) {
            Predicate<Place> left = unit(nested);
            while (token.equals("and")) {
                next();
                left = left.and(unit(nested));
            }
            return left;
        }

        void nest(int nested) {
            if (nested == 6) {
                throw fault(4);
            }
            next();
        }

        Predicate<Place> unit(int nested) {
            if (token.equals("not")) {
                nest(nested);
                return unit(nested + 1).negate();
            }
            if (token.equals("[")) {
                nest(nested);
                Predicate<Place> inner = truth(nested + 1);
                expect("]");
                return inner;
            }
            Sum a = sum(nested);
            String sign = token;
            if (!sign.matches("[=<>]")) {
                throw fault(2);
            }
            next();
            Sum b = sum(nested);
            return p -> {
                int c = Integer.compare(a.at(p), b.at(p));
                return sign.equals("=") ? c == 0 : sign.equals("<") ? c < 0 : c > 0;
            };
        }

        static int kept(long n) {
            return n > 1000000 ? 1000000 : n < -1000000 ? -1000000 : (int) n;
        }

        Sum sum(int nested) {
            Sum all = term(nested);
            while (token.equals("+") || token.equals("-")) {
                int by = token.equals("+") ? 1 : -1;
                next();
                Sum a = all;
                Sum b = term(nested);
                all = p -> kept(a.at(p) + (long) by * b.at(p));
            }
            return all;
        }

        Sum term(int nested) {
            Sum all = atom(nested);
            while (token.equals("*")) {
                next();
                Sum a = all;
                Sum b = atom(nested);
                all = p -> kept((long) a.at(p) * b.at(p));
            }
            return all;
        }

        Sum atom(int nested) {
            if (token.equals("(")) {
                nest(nested);
                Sum inner = sum(nested + 1);
                expect(")");
                return inner;
            }
            if (token.matches("[0-9]+")) {
                int n = number(x -> true);
                return p -> n;
            }
            Sum word = switch (token) {
                case "x" -> Place::x;
                case "y" -> Place::y;
                case "wet" -> Place::wet;
                case "drum" -> Place::drum;
                case "lies" -> may ? Place::lies : null;
                default -> null;
            };
            if (word == null) {
                throw fault(2);
            }
            next();
            return word;
        }
    }

    // ---- the land

    int feed(int a, int b, int c, int d, int e) {
        if (tape.length() > 880) {
            return -5;
        }
        for (int four : new int[] {a, b, c, d, e}) {
            for (int shift : new int[] {24, 16, 8, 0}) {
                tape.append((char) (four >> shift & 255));
            }
        }
        return tape.length();
    }

    int land(int n) {
        if (n < 0 || n > tape.length()) {
            return -3;
        }
        String text = tape.substring(0, n);
        tape.setLength(0);
        try {
            land = new Text(text).read();
        } catch (Fault f) {
            faultKind = f.kind;
            faultPlace = f.place;
            return -30 - f.kind;
        }
        faultKind = 0;
        faultPlace = -1;
        world = World.of(land);
        past.clear();
        return land.lines;
    }

    int fault(int what) {
        return what == 0 ? faultKind : what == 1 ? faultPlace : -1;
    }

    private int cells() {
        return land.wide * land.high;
    }

    private boolean noCell(int k) {
        return k < 0 || k >= cells();
    }

    private boolean noDrum(int d) {
        return d < 0 || d >= land.drums.size();
    }

    int cell(int k, int what) {
        if (noCell(k)) {
            return -2;
        }
        List<Integer> pile = world.pile(k);
        return switch (what) {
            case 0 -> land.rocks.contains(k) ? 1 : land.drums.contains(k) ? 2 : 0;
            case 1 -> pile.size();
            case 2 -> pile.isEmpty() ? -1 : pile.get(pile.size() - 1);
            case 3 -> pile.size() < 2 ? -1 : pile.get(0);
            case 4 -> onCell(world, k);
            default -> -2;
        };
    }

    private static int onCell(World w, int k) {
        for (int t = 0; t < w.travellers.size(); t++) {
            Traveller one = w.travellers.get(t);
            if (!one.arrived && one.place >= 0 && w.ribbons.get(one.drum).get(one.place).cell() == k) {
                return t;
            }
        }
        return -1;
    }

    private int end(World w, int d) {
        List<Laid> r = w.ribbons.get(d);
        return r.isEmpty() ? land.drums.get(d) : r.get(r.size() - 1).cell();
    }

    int drum(int d, int what) {
        if (noDrum(d)) {
            return -2;
        }
        return switch (what) {
            case 0 -> land.drums.get(d);
            case 1 -> world.yards.get(d);
            case 2 -> world.ribbons.get(d).size();
            case 3 -> end(world, d);
            case 4 -> world.ribbons.get(d).stream().mapToInt(Laid::yards).sum();
            default -> -2;
        };
    }

    int lies(int d, int i) {
        if (noDrum(d)) {
            return -2;
        }
        if (i < 0) {
            return -3;
        }
        List<Laid> r = world.ribbons.get(d);
        return i < r.size() ? r.get(i).cell() : -1;
    }

    int traveller(int t, int what) {
        if (t < 0 || t >= world.travellers.size()) {
            return -2;
        }
        Traveller one = world.travellers.get(t);
        return switch (what) {
            case 0 -> one.drum;
            case 1 -> one.arrived ? -1 : one.place;
            case 2 -> one.arrived ? 1 : 0;
            case 3 -> one.waited;
            default -> -2;
        };
    }

    private Place placeOf(World w, int d, int k) {
        return new Place(k % land.wide, k / land.wide, w.wet, d, w.pile(k).size());
    }

    int takes(int d, int k) {
        return noDrum(d) || noCell(k) ? -2 : land.takes.at(placeOf(world, d, k));
    }

    // ---- deeds

    /** The cell by a turn, -1 beyond the edge. */
    private int by(int k, int turn) {
        int x = k % land.wide + STEPS[turn][0];
        int y = k / land.wide + STEPS[turn][1];
        return x < 0 || y < 0 || x >= land.wide || y >= land.high ? -1 : y * land.wide + x;
    }

    /** Why a ribbon can't be laid on a cell, yards aside, with so many cells and these. */
    private int whyNotOn(World w, int d, int k, int length, Set<Integer> own) {
        if (k < 0 || land.rocks.contains(k) || land.drums.contains(k) || own.contains(k)
            || w.pile(k).size() >= 2 || length >= 16) {
            return 2;
        }
        return land.may.test(placeOf(w, d, k)) ? 0 : 3;
    }

    private static Set<Integer> own(World w, int d) {
        Set<Integer> own = new HashSet<>();
        w.ribbons.get(d).forEach(l -> own.add(l.cell()));
        return own;
    }

    private int whyLay(World w, int d, int turn) {
        if (noDrum(d) || turn < 1 || turn > 4) {
            return 1;
        }
        int k = by(end(w, d), turn);
        int reason = whyNotOn(w, d, k, w.ribbons.get(d).size(), own(w, d));
        return reason != 0 ? reason : land.takes.at(placeOf(w, d, k)) > w.yards.get(d) ? 4 : 0;
    }

    private int doLay(World w, int d, int turn, boolean over) {
        int reason = whyLay(w, d, turn);
        if (reason == 0) {
            int k = by(end(w, d), turn);
            int yards = land.takes.at(placeOf(w, d, k));
            w.ribbons.get(d).add(new Laid(k, yards));
            w.yards.set(d, w.yards.get(d) - yards);
            w.pile(k).add(over ? w.pile(k).size() : 0, d);
        }
        return reason;
    }

    private static boolean covered(World w, int d, int k) {
        return w.pile(k).indexOf(d) < w.pile(k).size() - 1;
    }

    private int doBack(World w, int d) {
        if (noDrum(d)) {
            return 1;
        }
        List<Laid> r = w.ribbons.get(d);
        if (r.isEmpty()) {
            return 2;
        }
        int last = r.size() - 1;
        if (covered(w, d, r.get(last).cell())) {
            return 3;
        }
        if (w.travellers.stream().anyMatch(t -> t.drum == d && !t.arrived && t.place == last)) {
            return 4;
        }
        w.pile(r.get(last).cell()).remove(Integer.valueOf(d));
        w.yards.set(d, w.yards.get(d) + r.get(last).yards());
        r.remove(last);
        return 0;
    }

    private int whyIn(World w, int d) {
        if (noDrum(d)) {
            return 1;
        }
        List<Laid> r = w.ribbons.get(d);
        if (r.isEmpty()) {
            return 2;
        }
        if (r.stream().anyMatch(l -> covered(w, d, l.cell()))) {
            return 3;
        }
        return w.travellers.stream().anyMatch(t -> t.drum == d && !t.arrived) ? 4 : 0;
    }

    private int doIn(World w, int d) {
        int reason = whyIn(w, d);
        if (reason == 0) {
            for (Laid l : w.ribbons.get(d)) {
                w.pile(l.cell()).remove(Integer.valueOf(d));
                w.yards.set(d, w.yards.get(d) + l.yards());
            }
            w.ribbons.get(d).clear();
        }
        return reason;
    }

    private int doOut(World w, int d) {
        if (noDrum(d)) {
            return 1;
        }
        if (w.ribbons.get(d).isEmpty()) {
            return 2;
        }
        if (w.travellers.size() == 8) {
            return 3;
        }
        Traveller t = new Traveller();
        t.drum = d;
        w.travellers.add(t);
        return 0;
    }

    private static int doHour(World w) {
        int arrived = 0;
        for (Traveller t : w.travellers) {
            if (t.arrived) {
                continue;
            }
            List<Laid> r = w.ribbons.get(t.drum);
            boolean went = false;
            if (t.place + 1 < r.size() && onCell(w, r.get(t.place + 1).cell()) < 0) {
                t.place++;
                went = true;
            }
            if (t.place >= 0 && t.place == r.size() - 1) {
                t.arrived = true;
                arrived++;
            } else if (!went) {
                t.waited++;
            }
        }
        w.hour++;
        return arrived;
    }

    private int doDeed(World w, long v) {
        if (v == -1) {
            doHour(w);
            return 0;
        }
        if (v < 0 || v > 9009) {
            return 1;
        }
        int n = (int) v;
        int d = n % 1000;
        return switch (n / 1000) {
            case 6 -> doBack(w, d);
            case 7 -> doIn(w, d);
            case 8 -> doOut(w, d);
            case 9 -> {
                w.wet = d;
                yield 0;
            }
            default -> n / 100 % 10 > 0 || n / 10 % 10 > 1 ? 1 : doLay(w, n / 1000, n % 10, n / 10 % 10 == 1);
        };
    }

    private void remember(World before) {
        past.push(before);
        if (past.size() > 10) {
            past.removeLast();
        }
    }

    private interface Deed {
        int on(World w);
    }

    /** Its code, or 0 if it was done. */
    private int single(Deed deed) {
        World before = world.copy();
        int reason = deed.on(world);
        if (reason != 0) {
            return -10 - reason;
        }
        remember(before);
        return 0;
    }

    int why(int d, int turn) {
        return whyLay(world, d, turn);
    }

    int lay(int d, int turn, boolean over) {
        int code = single(w -> doLay(w, d, turn, over));
        return code != 0 ? code : world.yards.get(d);
    }

    int back(int d) {
        int code = single(w -> doBack(w, d));
        return code != 0 ? code : world.yards.get(d);
    }

    int takeIn(int d) {
        int code = single(w -> doIn(w, d));
        return code != 0 ? code : world.yards.get(d);
    }

    int setOut(int d) {
        int code = single(w -> doOut(w, d));
        return code != 0 ? code : world.travellers.size() - 1;
    }

    int turn(int k) {
        if (noCell(k)) {
            return -2;
        }
        if (world.pile(k).size() < 2) {
            return -5;
        }
        single(w -> {
            w.pile(k).add(w.pile(k).remove(0));
            return 0;
        });
        return world.pile(k).get(1);
    }

    int rain(int n) {
        if (n < 0 || n > 9) {
            return -3;
        }
        int was = world.wet;
        single(w -> doDeed(w, 9000 + n));
        return was;
    }

    int hours(int n) {
        if (n < 1 || n > 48) {
            return -3;
        }
        int[] arrived = {0};
        single(w -> {
            for (int i = 0; i < n; i++) {
                arrived[0] += doHour(w);
            }
            return 0;
        });
        return arrived[0];
    }

    int undo(int n) {
        if (n < 1 || n > 10 || n > past.size()) {
            return -3;
        }
        for (int i = 0; i < n; i++) {
            world = past.pop();
        }
        return past.size();
    }

    int judge(int tray, int what) {
        if (tray < 0 || tray > 3 || what < 0 || what > 3) {
            return -2;
        }
        if (trays[tray] == null) {
            return -6;
        }
        World w = world.copy();
        int place = -1;
        int reason = 0;
        for (int i = 0; i < trays[tray].length && reason == 0; i++) {
            reason = doDeed(w, trays[tray][i]);
            place = reason == 0 ? -1 : i;
        }
        return switch (what) {
            case 0 -> place;
            case 1 -> reason;
            case 2 -> w.yards.stream().mapToInt(y -> y).sum();
            default -> w.hour;
        };
    }

    int perform(int tray) {
        if (tray < 0 || tray > 3) {
            return -2;
        }
        if (trays[tray] == null) {
            return -6;
        }
        World before = world.copy();
        int done = 0;
        while (done < trays[tray].length && doDeed(world, trays[tray][done]) == 0) {
            done++;
        }
        if (done > 0) {
            remember(before);
        }
        return done;
    }

    private int x;

    private int draw(int modulo) {
        x = 1103515245 * x + 12345;
        return (x >>> 16) % modulo;
    }

    int season(int seed, int times) {
        if (times < 1 || times > 40) {
            return -3;
        }
        int drums = land.drums.size();
        if (drums == 0) {
            return -5;
        }
        World before = world.copy();
        x = seed;
        int done = 0;
        for (int i = 0; i < times; i++) {
            int what = draw(6);
            long deed;
            if (what < 3) {
                long d = draw(drums);
                long turn = 1 + draw(4);
                deed = d * 1000 + turn + 10 * draw(2);
            } else if (what == 3) {
                deed = -1;
            } else {
                deed = (what == 4 ? 8000 : 7000) + draw(drums);
            }
            done += doDeed(world, deed) == 0 ? 1 : 0;
        }
        if (done > 0) {
            remember(before);
        }
        return done;
    }

    // ---- ways

    private List<Way> allWays(int d, int rock) {
        List<Way> all = new ArrayList<>();
        Set<Integer> own = own(world, d);
        extend(d, rock, end(world, d), new Way(List.of(), List.of(), 0), own, all);
        return all;
    }

    private void extend(int d, int rock, int at, Way way, Set<Integer> own, List<Way> all) {
        all.add(way);
        for (int turn = 1; turn <= 4; turn++) {
            int k = by(at, turn);
            if (k == rock || whyNotOn(world, d, k, own.size(), own) != 0) {
                continue;
            }
            List<Integer> turns = new ArrayList<>(way.turns());
            List<Integer> cells = new ArrayList<>(way.cells());
            turns.add(turn);
            cells.add(k);
            own.add(k);
            int yards = way.yards() + land.takes.at(placeOf(world, d, k));
            extend(d, rock, k, new Way(turns, cells, yards), own, all);
            own.remove(k);
        }
    }

    private int target(int d, Way way) {
        return way.cells().isEmpty() ? end(world, d) : way.cells().get(way.cells().size() - 1);
    }

    private static int compareWays(Way a, Way b) {
        if (a.yards() != b.yards()) {
            return Integer.compare(a.yards(), b.yards());
        }
        if (a.cells().size() != b.cells().size()) {
            return Integer.compare(a.cells().size(), b.cells().size());
        }
        for (int i = 0; i < a.turns().size(); i++) {
            if (!a.turns().get(i).equals(b.turns().get(i))) {
                return Integer.compare(a.turns().get(i), b.turns().get(i));
            }
        }
        return 0;
    }

    private Map<Integer, Way> shortWays(int d) {
        Map<Integer, Way> best = new HashMap<>();
        for (Way way : allWays(d, -2)) {
            best.merge(target(d, way), way, (a, b) -> compareWays(a, b) <= 0 ? a : b);
        }
        return best;
    }

    long reach(int d) {
        if (noDrum(d)) {
            return -2;
        }
        long bits = 0;
        for (Map.Entry<Integer, Way> e : shortWays(d).entrySet()) {
            if (e.getValue().yards() <= world.yards.get(d)) {
                bits |= 1L << e.getKey();
            }
        }
        return bits;
    }

    int fewest(int d, int k) {
        if (noDrum(d) || noCell(k)) {
            return -2;
        }
        Way way = shortWays(d).get(k);
        return way == null ? -1 : way.yards();
    }

    int way(int d, int k, int i) {
        if (noDrum(d) || noCell(k)) {
            return -2;
        }
        if (i < 0) {
            return -3;
        }
        Way way = shortWays(d).get(k);
        return way == null || i >= way.turns().size() ? -1 : way.turns().get(i);
    }

    int ways(int d, int k, int n) {
        if (noDrum(d) || noCell(k)) {
            return -2;
        }
        if (n < 0 || n > 8) {
            return -3;
        }
        return (int) allWays(d, -2).stream().filter(w -> w.cells().size() == n && target(d, w) == k).count();
    }

    int crossings(int d, int k) {
        if (noDrum(d) || noCell(k)) {
            return -2;
        }
        return (int) allWays(d, -2).stream().filter(w -> target(d, w) == k)
            .mapToLong(w -> w.cells().stream().filter(c -> world.pile(c).size() > 0).count()).min().orElse(-1);
    }

    long needed(int d, int k) {
        if (noDrum(d) || noCell(k)) {
            return -2;
        }
        if (!shortWays(d).containsKey(k)) {
            return 0;
        }
        long bits = 0;
        for (int c = 0; c < cells(); c++) {
            if (c != k && c != end(world, d) && allWays(d, c).stream().noneMatch(w -> target(d, w) == k)) {
                bits |= 1L << c;
            }
        }
        return bits;
    }

    int farthest(int d) {
        if (noDrum(d)) {
            return -2;
        }
        Map<Integer, Way> ways = shortWays(d);
        int best = -1;
        for (int k = 0; k < cells(); k++) {
            if (ways.containsKey(k) && ways.get(k).yards() <= world.yards.get(d)
                && (best < 0 || ways.get(k).yards() > ways.get(best).yards())) {
                best = k;
            }
        }
        return best;
    }

    // ---- over and under

    private static int aboveIn(World w, int d) {
        int bits = 0;
        for (List<Integer> pile : w.piles.values()) {
            if (pile.size() == 2 && pile.get(0) == d) {
                bits |= 1 << pile.get(1);
            }
        }
        return bits;
    }

    int above(int d) {
        return noDrum(d) ? -2 : aboveIn(world, d);
    }

    int ahead(int d) {
        if (noDrum(d)) {
            return -2;
        }
        Set<Integer> found = new HashSet<>();
        Deque<Integer> todo = new ArrayDeque<>(List.of(d));
        while (!todo.isEmpty()) {
            int over = aboveIn(world, todo.pop());
            for (int a = 0; a < 6; a++) {
                if ((over >> a & 1) == 1 && found.add(a)) {
                    todo.push(a);
                }
            }
        }
        return found.stream().mapToInt(a -> 1 << a).sum();
    }

    /** Those taken in, in their order, and travellers aside. */
    private List<Integer> taken(World w) {
        World without = w.copy();
        without.travellers.clear();
        List<Integer> order = new ArrayList<>();
        boolean found = true;
        while (found) {
            found = false;
            for (int d = 0; d < land.drums.size() && !found; d++) {
                if (doIn(without, d) == 0) {
                    order.add(d);
                    found = true;
                }
            }
        }
        return order;
    }

    int order(int i) {
        if (i < 0) {
            return -3;
        }
        List<Integer> order = taken(world);
        return i < order.size() ? order.get(i) : -1;
    }

    private int lying() {
        int bits = 0;
        for (int d = 0; d < land.drums.size(); d++) {
            bits |= world.ribbons.get(d).isEmpty() ? 0 : 1 << d;
        }
        return bits;
    }

    int stuck() {
        int bits = lying();
        for (int d : taken(world)) {
            bits &= ~(1 << d);
        }
        return bits;
    }

    private List<Integer> crossed() {
        List<Integer> all = new ArrayList<>();
        for (int k = 0; k < cells(); k++) {
            if (world.pile(k).size() == 2) {
                all.add(k);
            }
        }
        return all;
    }

    int twists() {
        List<Integer> all = crossed();
        for (int many = 0; many <= all.size(); many++) {
            if (canTwist(world.copy(), all, 0, many)) {
                return many;
            }
        }
        throw new IllegalStateException("no twists");
    }

    private boolean canTwist(World w, List<Integer> all, int from, int many) {
        if (many == 0) {
            return taken(w).size() == Integer.bitCount(lying());
        }
        for (int i = from; i < all.size(); i++) {
            World turned = w.copy();
            turned.pile(all.get(i)).add(turned.pile(all.get(i)).remove(0));
            if (canTwist(turned, all, i + 1, many - 1)) {
                return true;
            }
        }
        return false;
    }

    int orders() {
        World without = world.copy();
        without.travellers.clear();
        return ordersOf(without);
    }

    private int ordersOf(World w) {
        if (w.ribbons.stream().allMatch(List::isEmpty)) {
            return 1;
        }
        int many = 0;
        for (int d = 0; d < land.drums.size(); d++) {
            World then = w.copy();
            if (doIn(then, d) == 0) {
                many += ordersOf(then);
            }
        }
        return many;
    }

    // ---- travellers

    private static int hoursTill(World from, Predicate<World> there) {
        World w = from.copy();
        for (int h = 0; h <= 99; h++) {
            if (there.test(w)) {
                return h;
            }
            doHour(w);
        }
        return -1;
    }

    int arrives(int t) {
        if (t < 0 || t >= world.travellers.size()) {
            return -2;
        }
        return hoursTill(world, w -> w.travellers.get(t).arrived);
    }

    int waits(int t) {
        if (t < 0 || t >= world.travellers.size()) {
            return -2;
        }
        World w = world.copy();
        for (int h = 0; h < 99; h++) {
            doHour(w);
        }
        return w.travellers.get(t).waited - world.travellers.get(t).waited;
    }

    int allIn() {
        return hoursTill(world, w -> w.travellers.stream().allMatch(t -> t.arrived));
    }

    int free(int d) {
        if (noDrum(d)) {
            return -2;
        }
        if (world.ribbons.get(d).isEmpty()) {
            return -5;
        }
        return hoursTill(world, w -> whyIn(w, d) == 0);
    }

    int busiest() {
        World w = world.copy();
        long[] many = new long[100];
        for (int h = 0; h <= 99; h++) {
            many[h] = w.travellers.stream().filter(t -> !t.arrived && t.place >= 0).count();
            doHour(w);
        }
        long most = Arrays.stream(many).max().getAsLong();
        int h = 0;
        while (many[h] != most) {
            h++;
        }
        return h;
    }

    int wouldArrive(int d) {
        if (noDrum(d)) {
            return -2;
        }
        World w = world.copy();
        if (doOut(w, d) != 0) {
            return -5;
        }
        int t = w.travellers.size() - 1;
        return hoursTill(w, v -> v.travellers.get(t).arrived);
    }

    // ---- faded

    private int fadedCode(int tray, int d) {
        if (tray < 0 || tray > 3 || noDrum(d)) {
            return -2;
        }
        if (trays[tray] == null) {
            return -6;
        }
        if (trays[tray].length < 1 || trays[tray].length > 6) {
            return -4;
        }
        return Arrays.stream(trays[tray]).anyMatch(k -> k < 0 || k >= cells()) ? -3 : 0;
    }

    private List<Integer> fadedCells(int tray, int d) {
        Map<Integer, Way> ways = shortWays(d);
        List<Integer> found = new ArrayList<>();
        for (int k = 0; k < cells(); k++) {
            Way way = ways.get(k);
            if (way != null && Arrays.stream(trays[tray]).allMatch(c -> way.cells().contains((int) c))) {
                found.add(k);
            }
        }
        return found;
    }

    long faded(int tray, int d) {
        int code = fadedCode(tray, d);
        return code != 0 ? code : fadedCells(tray, d).stream().mapToLong(k -> 1L << k).sum();
    }

    int manyFaded(int tray, int d) {
        int code = fadedCode(tray, d);
        return code != 0 ? code : fadedCells(tray, d).size();
    }

    int look(int tray, int d) {
        int code = fadedCode(tray, d);
        if (code != 0) {
            return code;
        }
        List<Integer> found = fadedCells(tray, d);
        Map<Integer, Way> ways = shortWays(d);
        int best = -1;
        long most = -1;
        for (int c = 0; c < cells() && !found.isEmpty(); c++) {
            int cell = c;
            long by = found.stream().filter(k -> ways.get(k).cells().contains(cell)).count();
            if (Math.min(by, found.size() - by) > most) {
                most = Math.min(by, found.size() - by);
                best = c;
            }
        }
        return best;
    }

    // ---- trays, images

    int numbers(int tray, int sort, int n) {
        if (tray < 0 || tray > 3 || sort < 0 || sort > 3) {
            return -2;
        }
        if (n < 0 || n > 40) {
            return -3;
        }
        trays[tray] = new long[n];
        sorts[tray] = sort;
        return 0;
    }

    private long put(int tray, int i, long v) {
        int shift = 64 - (8 << sorts[tray]);
        trays[tray][i] = v << shift >> shift;
        return trays[tray][i];
    }

    long write(int tray, int i, long v) {
        if (tray < 0 || tray > 3) {
            return -2;
        }
        if (trays[tray] == null) {
            return -6;
        }
        return i < 0 || i >= trays[tray].length ? -7 : put(tray, i, v);
    }

    int lists(int tray, int d, int k) {
        if (tray < 0 || tray > 3 || noDrum(d) || noCell(k)) {
            return -2;
        }
        if (trays[tray] == null) {
            return -6;
        }
        Way way = shortWays(d).get(k);
        if (way == null) {
            return -5;
        }
        int i = 0;
        while (i < way.turns().size() && i < trays[tray].length) {
            put(tray, i, 1000L * d + 10 + way.turns().get(i));
            i++;
        }
        return i;
    }

    int image(int i) {
        if (i < 0 || i > 1) {
            return -2;
        }
        images[i] = new Saved(land, world.copy());
        return 0;
    }

    int restore(int i) {
        if (i < 0 || i > 1) {
            return -2;
        }
        if (images[i] == null) {
            return -5;
        }
        land = images[i].land();
        world = images[i].world().copy();
        past.clear();
        return 0;
    }

    int count(int what) {
        return switch (what) {
            case 0 -> land.wide;
            case 1 -> land.high;
            case 2 -> land.drums.size();
            case 3 -> land.rocks.size();
            case 4 -> crossed().size();
            case 5 -> Integer.bitCount(lying());
            case 6 -> world.travellers.size();
            case 7 -> (int) world.travellers.stream().filter(t -> !t.arrived).count();
            case 8 -> world.wet;
            case 9 -> world.hour;
            case 10 -> past.size();
            case 11 -> tape.length();
            case 12 -> land.lines;
            default -> -1;
        };
    }
}
