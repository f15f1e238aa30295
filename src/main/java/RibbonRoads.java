import java.util.Arrays;

/**
 * Ribbons laid from drums over a land of cells, and travellers who walk along them.
 * Each call is told by a promise of shared/DOC.md; the words here are those of that document.
 */
public final class RibbonRoads {
    /** There is none. */
    public static final int NONE = -1;

    private static final int NO_SUCH = -2;
    private static final int BAD_NUMBER = -3;
    private static final int TOO_MANY = -4;
    private static final int NOT_NOW = -5;
    private static final int MISSING = -6;
    private static final int NO_PLACE = -7;
    private static final int WHY_BASE = -10;
    private static final int FAULT_BASE = -30;

    private static final int MOST_BYTES = 900;
    private static final int FED_BYTES = 20;
    private static final int MOST_CELLS = 36;
    private static final int MOST_DRUMS = 6;
    private static final int DRUM_SETS = 64;
    private static final int MOST_LAID = 16;
    private static final int MOST_TRAVELLERS = 8;
    private static final int MOST_UNDONE = 10;
    private static final int MOST_NUMBERS = 40;
    private static final int MOST_SEEN = 6;
    private static final int MOST_WAY_CELLS = 8;
    private static final int MOST_HOURS = 48;
    private static final int MOST_TIMES = 40;
    private static final int MOST_WET = 9;
    private static final int TRAYS = 4;
    private static final int SORTS = 4;
    private static final int IMAGES = 2;
    private static final int TURNS = 4;
    private static final int HOURS_TO_COME = 99;

    private final byte[] tape = new byte[MOST_BYTES];
    private int taped;
    private final Reader reader = new Reader();
    private final Land here = new Land();
    private final State now = new State();
    private final State trial = new State();
    private final Past past = new Past();
    private final Tray[] trays = new Tray[TRAYS];
    private final Image[] images = new Image[IMAGES];
    private final Ways search = new Ways();
    private final Piles piles = new Piles();

    public RibbonRoads() {
        for (int i = 0; i < TRAYS; i++) {
            trays[i] = new Tray();
        }
        for (int i = 0; i < IMAGES; i++) {
            images[i] = new Image();
        }
        now.begin(here);
    }

    // ---- the land

    public int feed(int a, int b, int c, int d, int e) {
        if (taped + FED_BYTES > MOST_BYTES) {
            return NOT_NOW;
        }
        putOnTape(a);
        putOnTape(b);
        putOnTape(c);
        putOnTape(d);
        putOnTape(e);
        return taped;
    }

    private void putOnTape(int four) {
        for (int shift = 24; shift >= 0 && taped < MOST_BYTES; shift -= 8) {
            tape[taped] = (byte) (four >>> shift);
            taped++;
        }
    }

    public int land(int n) {
        if (n < 0 || n > taped) {
            return BAD_NUMBER;
        }
        taped = 0;
        if (!reader.read(tape, n)) {
            return FAULT_BASE - reader.fault;
        }
        here.copyOf(reader.land);
        now.begin(here);
        past.forget();
        return here.lines;
    }

    public int fault(int what) {
        if (what == 0) {
            return reader.fault;
        }
        return what == 1 ? reader.place : NONE;
    }

    public int cell(int k, int what) {
        if (!here.hasCell(k)) {
            return NO_SUCH;
        }
        switch (what) {
            case 0: return here.kinds[k];
            case 1: return now.lying(k);
            case 2: return now.upper[k];
            case 3: return now.lower[k];
            case 4: return now.travellerOn(k);
            default: return NO_SUCH;
        }
    }

    public int drum(int d, int what) {
        if (!here.hasDrum(d)) {
            return NO_SUCH;
        }
        switch (what) {
            case 0: return here.drumCells[d];
            case 1: return now.yards[d];
            case 2: return now.lengths[d];
            case 3: return now.endOf(here, d);
            case 4: return now.yardsLying(d);
            default: return NO_SUCH;
        }
    }

    public int lies(int d, int i) {
        if (!here.hasDrum(d)) {
            return NO_SUCH;
        }
        return i < 0 ? BAD_NUMBER : now.cellOf(d, i);
    }

    public int traveller(int t, int what) {
        if (!now.hasTraveller(t)) {
            return NO_SUCH;
        }
        switch (what) {
            case 0: return now.roads[t];
            case 1: return Math.max(now.places[t], NONE);
            case 2: return now.hasArrived(t) ? 1 : 0;
            case 3: return now.waited[t];
            default: return NO_SUCH;
        }
    }

    public int takes(int d, int k) {
        if (!here.hasDrum(d) || !here.hasCell(k)) {
            return NO_SUCH;
        }
        return here.yardsFor(d, k, now.wet);
    }

    // ---- deeds

    public int why(int d, int turn) {
        return now.whyNotLaid(here, d, turn);
    }

    public int lay(int d, int turn, boolean over) {
        int reason = now.whyNotLaid(here, d, turn);
        if (reason != 0) {
            return WHY_BASE - reason;
        }
        past.keep(now);
        now.tryLaying(here, d, turn, over);
        return now.yards[d];
    }

    public int back(int d) {
        int reason = now.whyNotBack(here, d);
        if (reason != 0) {
            return WHY_BASE - reason;
        }
        past.keep(now);
        now.tryBack(here, d);
        return now.yards[d];
    }

    public int takeIn(int d) {
        int reason = now.whyNotIn(here, d);
        if (reason != 0) {
            return WHY_BASE - reason;
        }
        past.keep(now);
        now.tryIn(here, d);
        return now.yards[d];
    }

    public int setOut(int d) {
        int reason = now.whyNotOut(here, d);
        if (reason != 0) {
            return WHY_BASE - reason;
        }
        past.keep(now);
        now.tryOut(here, d);
        return now.travellers - 1;
    }

    public int turn(int k) {
        if (!here.hasCell(k)) {
            return NO_SUCH;
        }
        if (now.lying(k) < 2) {
            return NOT_NOW;
        }
        past.keep(now);
        int risen = now.lower[k];
        now.lower[k] = now.upper[k];
        now.upper[k] = risen;
        return risen;
    }

    public int rain(int n) {
        if (n < 0 || n > MOST_WET) {
            return BAD_NUMBER;
        }
        past.keep(now);
        int before = now.wet;
        now.wet = n;
        return before;
    }

    public int hours(int n) {
        if (n < 1 || n > MOST_HOURS) {
            return BAD_NUMBER;
        }
        past.keep(now);
        int arrived = 0;
        for (int i = 0; i < n; i++) {
            arrived += now.passHour();
        }
        return arrived;
    }

    public int undo(int n) {
        if (n < 1 || n > past.size) {
            return BAD_NUMBER;
        }
        past.bringBack(n, now);
        return past.size;
    }

    public int judge(int tray, int what) {
        if (!isTray(tray) || what < 0 || what > 3) {
            return NO_SUCH;
        }
        Tray told = trays[tray];
        if (told.isMissing()) {
            return MISSING;
        }
        trial.copyOf(now);
        int done = trial.followAll(here, told);
        boolean all = done >= told.size;
        switch (what) {
            case 0: return all ? NONE : done;
            // The trial stands just ahead of the deed that can't be: trying it once more only tells why.
            case 1: return all ? 0 : trial.follow(here, told.number(done));
            case 2: return trial.allYards(here);
            default: return trial.hour;
        }
    }

    public int perform(int tray) {
        if (!isTray(tray)) {
            return NO_SUCH;
        }
        if (trays[tray].isMissing()) {
            return MISSING;
        }
        trial.copyOf(now);
        int done = trial.followAll(here, trays[tray]);
        takeOverTrial(done);
        return done;
    }

    public int season(int seed, int times) {
        if (times < 1 || times > MOST_TIMES) {
            return BAD_NUMBER;
        }
        if (here.drums < 1) {
            return NOT_NOW;
        }
        trial.copyOf(now);
        int done = trial.followSeason(here, seed, times);
        takeOverTrial(done);
        return done;
    }

    /** A call that did nothing must not be one that can be undone. */
    private void takeOverTrial(int done) {
        if (done > 0) {
            past.keep(now);
            now.copyOf(trial);
        }
    }

    // ---- ways

    public long reach(int d) {
        if (!here.hasDrum(d)) {
            return NO_SUCH;
        }
        search.findShort(here, now, d);
        long bits = 0;
        for (int k = 0; k < here.cells(); k++) {
            if (search.comesTo(k) && search.least[k] <= now.yards[d]) {
                bits |= 1L << k;
            }
        }
        return bits;
    }

    public int fewest(int d, int k) {
        if (!here.hasDrum(d) || !here.hasCell(k)) {
            return NO_SUCH;
        }
        search.findShort(here, now, d);
        return search.least[k];
    }

    public int way(int d, int k, int i) {
        if (!here.hasDrum(d) || !here.hasCell(k)) {
            return NO_SUCH;
        }
        if (i < 0) {
            return BAD_NUMBER;
        }
        search.findShort(here, now, d);
        return search.turnOf(k, i);
    }

    public int ways(int d, int k, int n) {
        if (!here.hasDrum(d) || !here.hasCell(k)) {
            return NO_SUCH;
        }
        if (n < 0 || n > MOST_WAY_CELLS) {
            return BAD_NUMBER;
        }
        search.begin(here, now, d);
        return search.howMany(k, n);
    }

    public int crossings(int d, int k) {
        if (!here.hasDrum(d) || !here.hasCell(k)) {
            return NO_SUCH;
        }
        search.findLeastCrossed(here, now, d);
        return search.least[k];
    }

    public long needed(int d, int k) {
        if (!here.hasDrum(d) || !here.hasCell(k)) {
            return NO_SUCH;
        }
        search.findShort(here, now, d);
        long bits = 0;
        // What every way needs, the short way needs too: only its cells can be needed.
        long asked = search.passed[k] & ~(1L << k);
        for (int c = 0; c < here.cells(); c++) {
            if ((asked >>> c & 1) == 1 && !search.reachesWithout(k, c)) {
                bits |= 1L << c;
            }
        }
        return bits;
    }

    public int farthest(int d) {
        if (!here.hasDrum(d)) {
            return NO_SUCH;
        }
        search.findShort(here, now, d);
        int far = NONE;
        int most = NONE;
        for (int k = 0; k < here.cells(); k++) {
            int cost = search.least[k];
            if (cost <= now.yards[d] && cost > most) {
                far = k;
                most = cost;
            }
        }
        return far;
    }

    // ---- over and under

    public int above(int d) {
        if (!here.hasDrum(d)) {
            return NO_SUCH;
        }
        piles.lookAt(here, now);
        return piles.overs[d];
    }

    public int ahead(int d) {
        if (!here.hasDrum(d)) {
            return NO_SUCH;
        }
        piles.lookAt(here, now);
        return piles.allOver(d);
    }

    public int order(int i) {
        if (i < 0) {
            return BAD_NUMBER;
        }
        piles.lookAt(here, now);
        int left = piles.lying;
        int first = piles.firstFree(left);
        for (int n = 0; n < i && n < MOST_DRUMS && first != NONE; n++) {
            left &= ~(1 << first);
            first = piles.firstFree(left);
        }
        return first;
    }

    public int stuck() {
        piles.lookAt(here, now);
        int left = piles.lying;
        int first = piles.firstFree(left);
        for (int n = 0; n < MOST_DRUMS && first != NONE; n++) {
            left &= ~(1 << first);
            first = piles.firstFree(left);
        }
        return left;
    }

    public int twists() {
        piles.lookAt(here, now);
        return piles.fewestTurned();
    }

    public int orders() {
        piles.lookAt(here, now);
        return piles.howManyOrders();
    }

    // ---- travellers

    public int arrives(int t) {
        if (!now.hasTraveller(t)) {
            return NO_SUCH;
        }
        trial.copyOf(now);
        return hoursTillIn(t);
    }

    /** Hours of the trial till a traveller has arrived. */
    private int hoursTillIn(int t) {
        for (int h = 0; h <= HOURS_TO_COME; h++) {
            if (trial.hasArrived(t)) {
                return h;
            }
            trial.passHour();
        }
        return NONE;
    }

    public int waits(int t) {
        if (!now.hasTraveller(t)) {
            return NO_SUCH;
        }
        trial.copyOf(now);
        for (int h = 0; h < HOURS_TO_COME && !trial.hasArrived(t); h++) {
            trial.passHour();
        }
        return trial.waited[t] - now.waited[t];
    }

    public int allIn() {
        trial.copyOf(now);
        for (int h = 0; h <= HOURS_TO_COME; h++) {
            if (trial.onTheWay() == 0) {
                return h;
            }
            trial.passHour();
        }
        return NONE;
    }

    public int free(int d) {
        if (!here.hasDrum(d)) {
            return NO_SUCH;
        }
        if (now.lengths[d] < 1) {
            return NOT_NOW;
        }
        trial.copyOf(now);
        for (int h = 0; h <= HOURS_TO_COME; h++) {
            if (trial.whyNotIn(here, d) == 0) {
                return h;
            }
            trial.passHour();
        }
        return NONE;
    }

    public int busiest() {
        trial.copyOf(now);
        int best = 0;
        int most = NONE;
        for (int h = 0; h <= HOURS_TO_COME && trial.onTheWay() > 0; h++) {
            int many = trial.onCells();
            if (many > most) {
                most = many;
                best = h;
            }
            trial.passHour();
        }
        return best;
    }

    public int wouldArrive(int d) {
        if (!here.hasDrum(d)) {
            return NO_SUCH;
        }
        trial.copyOf(now);
        if (trial.tryOut(here, d) != 0) {
            return NOT_NOW;
        }
        return hoursTillIn(trial.travellers - 1);
    }

    // ---- faded

    public long faded(int tray, int d) {
        int code = whyNotFaded(tray, d);
        if (code != 0) {
            return code;
        }
        return fadedCells(tray, d);
    }

    public int manyFaded(int tray, int d) {
        int code = whyNotFaded(tray, d);
        if (code != 0) {
            return code;
        }
        return Long.bitCount(fadedCells(tray, d));
    }

    public int look(int tray, int d) {
        int code = whyNotFaded(tray, d);
        if (code != 0) {
            return code;
        }
        long ends = fadedCells(tray, d);
        int all = Long.bitCount(ends);
        if (all == 0) {
            return NONE;
        }
        int best = NONE;
        int most = NONE;
        for (int c = 0; c < here.cells(); c++) {
            int by = Long.bitCount(search.endsBy(1L << c) & ends);
            int lesser = Math.min(by, all - by);
            if (lesser > most) {
                most = lesser;
                best = c;
            }
        }
        return best;
    }

    private int whyNotFaded(int tray, int d) {
        if (!isTray(tray) || !here.hasDrum(d)) {
            return NO_SUCH;
        }
        Tray seen = trays[tray];
        if (seen.isMissing()) {
            return MISSING;
        }
        if (seen.size < 1 || seen.size > MOST_SEEN) {
            return TOO_MANY;
        }
        for (int i = 0; i < seen.size; i++) {
            long k = seen.number(i);
            if (k < 0 || k >= here.cells()) {
                return BAD_NUMBER;
            }
        }
        return 0;
    }

    /** Cells to which the short way comes by all in a tray that is fit for it. */
    private long fadedCells(int tray, int d) {
        Tray seen = trays[tray];
        long by = 0;
        for (int i = 0; i < seen.size; i++) {
            by |= 1L << seen.number(i);
        }
        search.findShort(here, now, d);
        return search.endsBy(by);
    }

    // ---- trays, images

    private boolean isTray(int tray) {
        return tray >= 0 && tray < TRAYS;
    }

    public int numbers(int tray, int sort, int n) {
        if (!isTray(tray) || sort < 0 || sort >= SORTS) {
            return NO_SUCH;
        }
        if (n < 0 || n > MOST_NUMBERS) {
            return BAD_NUMBER;
        }
        trays[tray].begin(sort, n);
        return 0;
    }

    public long write(int tray, int i, long v) {
        if (!isTray(tray)) {
            return NO_SUCH;
        }
        if (trays[tray].isMissing()) {
            return MISSING;
        }
        if (i < 0 || i >= trays[tray].size) {
            return NO_PLACE;
        }
        return trays[tray].put(i, v);
    }

    public int lists(int tray, int d, int k) {
        if (!isTray(tray) || !here.hasDrum(d) || !here.hasCell(k)) {
            return NO_SUCH;
        }
        Tray into = trays[tray];
        if (into.isMissing()) {
            return MISSING;
        }
        search.findShort(here, now, d);
        if (!search.comesTo(k)) {
            return NOT_NOW;
        }
        int many = Math.min(search.steps[k], into.size);
        for (int i = 0; i < many; i++) {
            into.put(i, State.deedOver(d, search.turnOf(k, i)));
        }
        return many;
    }

    public int image(int i) {
        if (i < 0 || i >= IMAGES) {
            return NO_SUCH;
        }
        images[i].land.copyOf(here);
        images[i].state.copyOf(now);
        images[i].made = true;
        return 0;
    }

    public int restore(int i) {
        if (i < 0 || i >= IMAGES) {
            return NO_SUCH;
        }
        if (!images[i].made) {
            return NOT_NOW;
        }
        here.copyOf(images[i].land);
        now.copyOf(images[i].state);
        past.forget();
        return 0;
    }

    public int count(int what) {
        switch (what) {
            case 0: return here.wide;
            case 1: return here.high;
            case 2: return here.drums;
            case 3: return here.rocks;
            case 4: return now.crossed(here);
            case 5: return now.ribbonsLying(here);
            case 6: return now.travellers;
            case 7: return now.onTheWay();
            case 8: return now.wet;
            case 9: return now.hour;
            case 10: return past.size;
            case 11: return taped;
            case 12: return here.lines;
            default: return NONE;
        }
    }

    /** A law in the order in which it is reckoned: what a sign joins stands ahead of the sign. */
    static final class Law {
        // A number of a law is itself, so what is no number begins above the greatest one.
        static final int X = 1000;
        static final int Y = 1001;
        static final int WET = 1002;
        static final int DRUM = 1003;
        static final int LIES = 1004;
        static final int NOT = 1005;
        static final int AND = 1006;
        static final int OR = 1007;
        static final int EQUAL = 1008;
        static final int LESS = 1009;
        static final int MORE = 1010;
        static final int PLUS = 1011;
        static final int MINUS = 1012;
        static final int TIMES = 1013;

        private static final int LIMIT = 1000000;
        // Six brackets with two left sides each, and six more outside of them all.
        private static final int DEEPEST = 32;

        private final int[] code = new int[MOST_BYTES];
        private final int[] stack = new int[DEEPEST];
        private int size;

        boolean isTold() {
            return size > 0;
        }

        void clear() {
            size = 0;
        }

        void add(int part) {
            if (size < code.length) {
                code[size] = part;
                size++;
            }
        }

        void copyOf(Law other) {
            System.arraycopy(other.code, 0, code, 0, other.size);
            size = other.size;
        }

        /** What it tells; 1 or 0 for what is true or not. */
        int value(int x, int y, int wet, int drum, int lying) {
            int top = 0;
            for (int i = 0; i < size; i++) {
                int part = code[i];
                if (part < NOT && top < DEEPEST) {
                    stack[top] = part == X ? x : part == Y ? y : part == WET ? wet
                        : part == DRUM ? drum : part == LIES ? lying : part;
                    top++;
                } else if (part == NOT && top > 0) {
                    stack[top - 1] = 1 - stack[top - 1];
                } else if (part > NOT && top > 1) {
                    top--;
                    long a = stack[top - 1];
                    long b = stack[top];
                    long told;
                    switch (part) {
                        case AND: told = a & b; break;
                        case OR: told = a | b; break;
                        case EQUAL: told = a == b ? 1 : 0; break;
                        case LESS: told = a < b ? 1 : 0; break;
                        case MORE: told = a > b ? 1 : 0; break;
                        case PLUS: told = a + b; break;
                        case MINUS: told = a - b; break;
                        default: told = a * b; break;
                    }
                    stack[top - 1] = (int) Math.max(-LIMIT, Math.min(LIMIT, told));
                }
            }
            return stack[0];
        }
    }

    /** What a text tells: cells, drums, laws, and what the weather and the clock begin with. */
    static final class Land {
        static final int ROCK = 1;
        static final int WITH_DRUM = 2;

        private static final int MOST_TAKEN = 99;

        int wide = 2;
        int high = 2;
        int drums;
        int rocks;
        int lines;
        int wet;
        int hour;
        final int[] kinds = new int[MOST_CELLS];
        final int[] drumCells = new int[MOST_DRUMS];
        final int[] drumYards = new int[MOST_DRUMS];
        final Law takesLaw = new Law();
        final Law mayLaw = new Law();

        void clear() {
            wide = 2;
            high = 2;
            drums = 0;
            rocks = 0;
            lines = 0;
            wet = 0;
            hour = 0;
            Arrays.fill(kinds, 0);
            takesLaw.clear();
            mayLaw.clear();
        }

        void copyOf(Land other) {
            wide = other.wide;
            high = other.high;
            drums = other.drums;
            rocks = other.rocks;
            lines = other.lines;
            wet = other.wet;
            hour = other.hour;
            System.arraycopy(other.kinds, 0, kinds, 0, MOST_CELLS);
            System.arraycopy(other.drumCells, 0, drumCells, 0, MOST_DRUMS);
            System.arraycopy(other.drumYards, 0, drumYards, 0, MOST_DRUMS);
            takesLaw.copyOf(other.takesLaw);
            mayLaw.copyOf(other.mayLaw);
        }

        int cells() {
            return Math.min(wide * high, MOST_CELLS);
        }

        boolean hasCell(int k) {
            return k >= 0 && k < cells();
        }

        boolean hasDrum(int d) {
            return d >= 0 && d < drums && d < MOST_DRUMS;
        }

        int column(int k) {
            return wide < 1 ? 0 : k % wide;
        }

        int row(int k) {
            return wide < 1 ? 0 : k / wide;
        }

        /** The cell to which a turn leads, NONE beyond the edge. */
        int beside(int k, int turn) {
            switch (turn) {
                case 1: return row(k) > 0 ? k - wide : NONE;
                case 2: return column(k) < wide - 1 ? k + 1 : NONE;
                case 3: return row(k) < high - 1 ? k + wide : NONE;
                case 4: return column(k) > 0 ? k - 1 : NONE;
                default: return NONE;
            }
        }

        int yardsFor(int d, int k, int wetNow) {
            if (!takesLaw.isTold()) {
                return 1;
            }
            int told = takesLaw.value(column(k), row(k), wetNow, d, 0);
            return Math.max(1, Math.min(MOST_TAKEN, told));
        }

        boolean mayLie(int d, int k, int wetNow, int lying) {
            return !mayLaw.isTold() || mayLaw.value(column(k), row(k), wetNow, d, lying) == 1;
        }
    }

    /** A text cut into tokens, till the first place where none begins. */
    static final class Tokens {
        // A sign is its own character; all others are numbers that no sign has.
        static final int END = 0;
        static final int BAD = 1;
        static final int NUMBER = 2;
        static final int OTHER_WORD = 3;
        static final int LAND = 200;
        static final int ROCK = 201;
        static final int DRUM = 202;
        static final int YARDS = 203;
        static final int TAKES = 204;
        static final int MAY = 205;
        static final int WET = 206;
        static final int HOUR = 207;
        static final int X = 208;
        static final int Y = 209;
        static final int LIES = 210;
        static final int OR = 211;
        static final int AND = 212;
        static final int NOT = 213;

        private static final String SIGNS = ";:+-*()[]=<>";
        private static final int MOST_DIGITS = 3;

        private final int[] kinds = new int[MOST_BYTES + 1];
        private final int[] values = new int[MOST_BYTES + 1];
        private final int[] places = new int[MOST_BYTES + 1];
        private int size;
        private int passed;
        // Of the token at hand.
        int kind;
        int value;
        int place;

        /** The next token is at hand; the end stays so. */
        void next() {
            if (passed >= 0 && passed < size && passed < kinds.length) {
                kind = kinds[passed];
                value = values[passed];
                place = places[passed];
                passed++;
            }
        }

        /** Cuts a text; its first token is at hand. */
        void cut(byte[] text, int length) {
            size = 0;
            int at = 0;
            for (int n = 0; n < length && at < length && at < text.length; n++) {
                int c = text[at] & 255;
                if (c == 10 || c == 32) {
                    at++;
                } else if (isDigit(c)) {
                    at = cutNumber(text, at, length);
                } else if (isLetter(c)) {
                    at = cutWord(text, at, length);
                } else if (SIGNS.indexOf((char) c) >= 0) {
                    add(c, at, 0);
                    at++;
                } else {
                    add(BAD, at, 0);
                    at = length;
                }
            }
            add(END, length, 0);
            passed = 0;
            next();
        }

        private int cutNumber(byte[] text, int from, int length) {
            int at = from;
            int value = 0;
            while (at < length && at < text.length && isDigit(text[at])) {
                // Of a number too long only its first three digits are reckoned: it is no token anyway.
                if (at < from + MOST_DIGITS) {
                    value = value * 10 + text[at] - '0';
                }
                at++;
            }
            boolean fits = at - from <= MOST_DIGITS;
            add(fits ? NUMBER : BAD, from, value);
            return fits ? at : length;
        }

        private int cutWord(byte[] text, int from, int length) {
            int at = from;
            while (at < length && at < text.length && isLetter(text[at])) {
                at++;
            }
            add(wordOf(text, from, at), from, 0);
            return at;
        }

        private void add(int kind, int place, int value) {
            if (size < kinds.length) {
                kinds[size] = kind;
                places[size] = place;
                values[size] = value;
                size++;
            }
        }

        private static boolean isDigit(int c) {
            return c >= '0' && c <= '9';
        }

        private static boolean isLetter(int c) {
            return c >= 'a' && c <= 'z';
        }

        private static int wordOf(byte[] text, int from, int to) {
            return spells(text, from, to, "land") ? LAND
                : spells(text, from, to, "rock") ? ROCK
                : spells(text, from, to, "drum") ? DRUM
                : spells(text, from, to, "yards") ? YARDS
                : spells(text, from, to, "takes") ? TAKES
                : spells(text, from, to, "may") ? MAY
                : spells(text, from, to, "wet") ? WET
                : spells(text, from, to, "hour") ? HOUR
                : spells(text, from, to, "x") ? X
                : spells(text, from, to, "y") ? Y
                : spells(text, from, to, "lies") ? LIES
                : spells(text, from, to, "or") ? OR
                : spells(text, from, to, "and") ? AND
                : spells(text, from, to, "not") ? NOT
                : OTHER_WORD;
        }

        private static boolean spells(byte[] text, int from, int to, String word) {
            if (from < 0 || to > text.length || to - from != word.length()) {
                return false;
            }
            for (int i = 0; i < word.length(); i++) {
                if (text[from + i] != word.charAt(i)) {
                    return false;
                }
            }
            return true;
        }
    }

    /** Reads a text into a land of its own, up to its first fault: with one all else stays as it is. */
    static final class Reader {
        private static final int NO_TOKEN = 1;
        private static final int MISPLACED = 2;
        private static final int OUT_OF_BOUNDS = 3;
        private static final int BEYOND_MOST = 4;

        private static final int LEAST_SIDE = 2;
        private static final int MOST_SIDE = 6;
        private static final int MOST_NUMBER = 999;
        private static final int MOST_NESTED = 6;

        int fault;
        int place = NONE;
        final Land land = new Land();
        private final Tokens tokens = new Tokens();
        private Law law = land.takesLaw;
        private boolean inMay;

        /** Whether there was no fault. */
        boolean read(byte[] text, int length) {
            fault = 0;
            place = NONE;
            land.clear();
            tokens.cut(text, length);
            if (!readLand()) {
                return false;
            }
            for (int n = 0; n < MOST_BYTES && tokens.kind != Tokens.END; n++) {
                if (!readLine() || !skip(';')) {
                    return false;
                }
                land.lines++;
            }
            return true;
        }

        private boolean fail(int what) {
            fault = tokens.kind == Tokens.BAD ? NO_TOKEN : what;
            place = tokens.place;
            return false;
        }

        private boolean skip(int kind) {
            if (tokens.kind != kind) {
                return fail(MISPLACED);
            }
            tokens.next();
            return true;
        }

        /** The number that stands here, NONE with a fault. */
        private int readNumber(int low, int high) {
            if (tokens.kind != Tokens.NUMBER) {
                fail(MISPLACED);
                return NONE;
            }
            int number = tokens.value;
            if (number < low || number > high) {
                fail(OUT_OF_BOUNDS);
                return NONE;
            }
            tokens.next();
            return number;
        }

        private boolean readLand() {
            if (!skip(Tokens.LAND)) {
                return false;
            }
            int wide = readNumber(LEAST_SIDE, MOST_SIDE);
            if (wide == NONE) {
                return false;
            }
            int high = readNumber(LEAST_SIDE, MOST_SIDE);
            if (high == NONE) {
                return false;
            }
            land.wide = wide;
            land.high = high;
            land.lines = 1;
            return skip(';');
        }

        private boolean readLine() {
            switch (tokens.kind) {
                case Tokens.ROCK: return readRock();
                case Tokens.DRUM: return readDrum();
                case Tokens.TAKES: return readTakes();
                case Tokens.MAY: return readMay();
                case Tokens.WET: return readWet();
                case Tokens.HOUR: return readHour();
                default: return fail(MISPLACED);
            }
        }

        private boolean readWet() {
            tokens.next();
            land.wet = readNumber(0, MOST_WET);
            return land.wet != NONE;
        }

        private boolean readHour() {
            tokens.next();
            land.hour = readNumber(0, MOST_NUMBER);
            return land.hour != NONE;
        }

        /** A cell that is neither a rock nor has a drum yet, NONE with a fault. */
        private int readEmptyCell() {
            int x = readNumber(0, land.wide - 1);
            if (x == NONE) {
                return NONE;
            }
            int placeOfY = tokens.place;
            int y = readNumber(0, land.high - 1);
            if (y == NONE) {
                return NONE;
            }
            int k = land.wide * y + x;
            if (!land.hasCell(k) || land.kinds[k] != 0) {
                fault = OUT_OF_BOUNDS;
                place = placeOfY;
                return NONE;
            }
            return k;
        }

        private boolean readRock() {
            tokens.next();
            int k = readEmptyCell();
            if (k == NONE) {
                return false;
            }
            land.kinds[k] = Land.ROCK;
            land.rocks++;
            return true;
        }

        private boolean readDrum() {
            if (land.drums >= MOST_DRUMS) {
                return fail(BEYOND_MOST);
            }
            tokens.next();
            int k = readEmptyCell();
            if (k == NONE || !skip(Tokens.YARDS)) {
                return false;
            }
            int yards = readNumber(0, MOST_NUMBER);
            if (yards == NONE) {
                return false;
            }
            land.kinds[k] = Land.WITH_DRUM;
            land.drumCells[land.drums] = k;
            land.drumYards[land.drums] = yards;
            land.drums++;
            return true;
        }

        private boolean readTakes() {
            tokens.next();
            law = land.takesLaw;
            law.clear();
            inMay = false;
            return skip(':') && readSum(0);
        }

        private boolean readMay() {
            tokens.next();
            law = land.mayLaw;
            law.clear();
            inMay = true;
            return skip(':') && readTruth(0);
        }

        private boolean readTruth(int nested) {
            if (!readBoth(nested)) {
                return false;
            }
            for (int n = 0; n < MOST_BYTES && tokens.kind == Tokens.OR; n++) {
                tokens.next();
                if (!readBoth(nested)) {
                    return false;
                }
                law.add(Law.OR);
            }
            return true;
        }

        private boolean readBoth(int nested) {
            if (!readUnit(nested)) {
                return false;
            }
            for (int n = 0; n < MOST_BYTES && tokens.kind == Tokens.AND; n++) {
                tokens.next();
                if (!readUnit(nested)) {
                    return false;
                }
                law.add(Law.AND);
            }
            return true;
        }

        private boolean readUnit(int nested) {
            if (tokens.kind == Tokens.NOT || tokens.kind == '[') {
                return readNested(nested);
            }
            if (!readSum(nested)) {
                return false;
            }
            int sign = tokens.kind;
            if (sign != '=' && sign != '<' && sign != '>') {
                return fail(MISPLACED);
            }
            tokens.next();
            if (!readSum(nested)) {
                return false;
            }
            law.add(sign == '=' ? Law.EQUAL : sign == '<' ? Law.LESS : Law.MORE);
            return true;
        }

        private boolean readNested(int nested) {
            if (nested >= MOST_NESTED) {
                return fail(BEYOND_MOST);
            }
            boolean bracket = tokens.kind == '[';
            tokens.next();
            if (bracket) {
                return readTruth(nested + 1) && skip(']');
            }
            if (!readUnit(nested + 1)) {
                return false;
            }
            law.add(Law.NOT);
            return true;
        }

        private boolean readSum(int nested) {
            if (!readTerm(nested)) {
                return false;
            }
            for (int n = 0; n < MOST_BYTES && (tokens.kind == '+' || tokens.kind == '-'); n++) {
                int sign = tokens.kind;
                tokens.next();
                if (!readTerm(nested)) {
                    return false;
                }
                law.add(sign == '+' ? Law.PLUS : Law.MINUS);
            }
            return true;
        }

        private boolean readTerm(int nested) {
            if (!readAtom(nested)) {
                return false;
            }
            for (int n = 0; n < MOST_BYTES && tokens.kind == '*'; n++) {
                tokens.next();
                if (!readAtom(nested)) {
                    return false;
                }
                law.add(Law.TIMES);
            }
            return true;
        }

        private boolean readAtom(int nested) {
            if (tokens.kind == '(') {
                if (nested >= MOST_NESTED) {
                    return fail(BEYOND_MOST);
                }
                tokens.next();
                return readSum(nested + 1) && skip(')');
            }
            int part = partOf(tokens.kind);
            if (part == NONE) {
                return fail(MISPLACED);
            }
            law.add(part);
            tokens.next();
            return true;
        }

        /** What a token adds to the law as an atom, NONE if it is none. */
        private int partOf(int kind) {
            switch (kind) {
                case Tokens.NUMBER: return tokens.value;
                case Tokens.X: return Law.X;
                case Tokens.Y: return Law.Y;
                case Tokens.WET: return Law.WET;
                case Tokens.DRUM: return Law.DRUM;
                case Tokens.LIES: return inMay ? Law.LIES : NONE;
                default: return NONE;
            }
        }
    }

    /** All that deeds change: ribbons, travellers, the wet and the hour. */
    static final class State {
        private static final int ARRIVED = -2;

        private static final int BACK_DEEDS = 6000;
        private static final int IN_DEEDS = 7000;
        private static final int OUT_DEEDS = 8000;
        private static final int WET_DEEDS = 9000;

        final int[] lengths = new int[MOST_DRUMS];
        final int[] yards = new int[MOST_DRUMS];
        // The 16 places of each ribbon lie one behind the other.
        private final int[] laid = new int[MOST_DRUMS * MOST_LAID];
        private final int[] took = new int[MOST_DRUMS * MOST_LAID];
        final int[] upper = new int[MOST_CELLS];
        final int[] lower = new int[MOST_CELLS];
        int travellers;
        final int[] roads = new int[MOST_TRAVELLERS];
        final int[] places = new int[MOST_TRAVELLERS];
        final int[] waited = new int[MOST_TRAVELLERS];
        int wet;
        int hour;

        void begin(Land land) {
            Arrays.fill(lengths, 0);
            System.arraycopy(land.drumYards, 0, yards, 0, MOST_DRUMS);
            Arrays.fill(upper, NONE);
            Arrays.fill(lower, NONE);
            travellers = 0;
            wet = land.wet;
            hour = land.hour;
        }

        void copyOf(State other) {
            System.arraycopy(other.lengths, 0, lengths, 0, MOST_DRUMS);
            System.arraycopy(other.yards, 0, yards, 0, MOST_DRUMS);
            System.arraycopy(other.laid, 0, laid, 0, laid.length);
            System.arraycopy(other.took, 0, took, 0, took.length);
            System.arraycopy(other.upper, 0, upper, 0, MOST_CELLS);
            System.arraycopy(other.lower, 0, lower, 0, MOST_CELLS);
            travellers = other.travellers;
            System.arraycopy(other.roads, 0, roads, 0, MOST_TRAVELLERS);
            System.arraycopy(other.places, 0, places, 0, MOST_TRAVELLERS);
            System.arraycopy(other.waited, 0, waited, 0, MOST_TRAVELLERS);
            wet = other.wet;
            hour = other.hour;
        }

        // What lies where; callers have looked whether there is such a drum or cell.

        int lying(int k) {
            return upper[k] == NONE ? 0 : lower[k] == NONE ? 1 : 2;
        }

        /** The i-th cell of a ribbon, NONE where it has none. */
        int cellOf(int d, int i) {
            return i >= 0 && i < lengths[d] && i < MOST_LAID ? laid[d * MOST_LAID + i] : NONE;
        }

        int endOf(Land land, int d) {
            return lengths[d] > 0 ? cellOf(d, lengths[d] - 1) : land.drumCells[d];
        }

        int yardsLying(int d) {
            int sum = 0;
            for (int i = 0; i < lengths[d] && i < MOST_LAID; i++) {
                sum += took[d * MOST_LAID + i];
            }
            return sum;
        }

        int allYards(Land land) {
            int sum = 0;
            for (int d = 0; d < land.drums && d < MOST_DRUMS; d++) {
                sum += yards[d];
            }
            return sum;
        }

        int ribbonsLying(Land land) {
            int many = 0;
            for (int d = 0; d < land.drums && d < MOST_DRUMS; d++) {
                many += lengths[d] > 0 ? 1 : 0;
            }
            return many;
        }

        int crossed(Land land) {
            int many = 0;
            for (int k = 0; k < land.cells(); k++) {
                many += lying(k) == 2 ? 1 : 0;
            }
            return many;
        }

        private boolean isUnder(int d, int k) {
            return k >= 0 && k < MOST_CELLS && lower[k] == d;
        }

        /** Whether the ribbon of a drum could lie on a cell, the law may aside. */
        boolean isOpen(Land land, int d, int k) {
            return k >= 0 && k < MOST_CELLS && land.kinds[k] == 0 && lying(k) < 2 && upper[k] != d;
        }

        // Deeds: why one can't be, and doing it if it can, which answers the same.

        int whyNotLaid(Land land, int d, int turn) {
            if (!land.hasDrum(d) || turn < 1 || turn > TURNS) {
                return 1;
            }
            int k = land.beside(endOf(land, d), turn);
            if (lengths[d] >= MOST_LAID || !isOpen(land, d, k)) {
                return 2;
            }
            if (!land.mayLie(d, k, wet, lying(k))) {
                return 3;
            }
            return land.yardsFor(d, k, wet) > yards[d] ? 4 : 0;
        }

        int tryLaying(Land land, int d, int turn, boolean over) {
            int reason = whyNotLaid(land, d, turn);
            if (reason == 0) {
                int k = land.beside(endOf(land, d), turn);
                int taken = land.yardsFor(d, k, wet);
                laid[d * MOST_LAID + lengths[d]] = k;
                took[d * MOST_LAID + lengths[d]] = taken;
                lengths[d]++;
                yards[d] -= taken;
                boolean under = upper[k] != NONE && !over;
                lower[k] = under ? d : upper[k];
                upper[k] = under ? upper[k] : d;
            }
            return reason;
        }

        int whyNotBack(Land land, int d) {
            if (!land.hasDrum(d)) {
                return 1;
            }
            if (lengths[d] < 1) {
                return 2;
            }
            if (isUnder(d, endOf(land, d))) {
                return 3;
            }
            for (int t = 0; t < travellers; t++) {
                if (roads[t] == d && places[t] == lengths[d] - 1) {
                    return 4;
                }
            }
            return 0;
        }

        int tryBack(Land land, int d) {
            int reason = whyNotBack(land, d);
            if (reason == 0) {
                liftLast(land, d);
            }
            return reason;
        }

        int whyNotIn(Land land, int d) {
            if (!land.hasDrum(d)) {
                return 1;
            }
            if (lengths[d] < 1) {
                return 2;
            }
            for (int i = 0; i < lengths[d]; i++) {
                if (isUnder(d, cellOf(d, i))) {
                    return 3;
                }
            }
            for (int t = 0; t < travellers; t++) {
                if (roads[t] == d && places[t] != ARRIVED) {
                    return 4;
                }
            }
            return 0;
        }

        int tryIn(Land land, int d) {
            int reason = whyNotIn(land, d);
            if (reason == 0) {
                for (int i = 0; i < MOST_LAID && lengths[d] > 0; i++) {
                    liftLast(land, d);
                }
            }
            return reason;
        }

        /** The last cell of a ribbon, over which none lies, is taken up. */
        private void liftLast(Land land, int d) {
            int k = endOf(land, d);
            upper[k] = lower[k];
            lower[k] = NONE;
            lengths[d]--;
            yards[d] += took[d * MOST_LAID + lengths[d]];
        }

        int whyNotOut(Land land, int d) {
            if (!land.hasDrum(d)) {
                return 1;
            }
            if (lengths[d] < 1) {
                return 2;
            }
            return travellers >= MOST_TRAVELLERS ? 3 : 0;
        }

        int tryOut(Land land, int d) {
            int reason = whyNotOut(land, d);
            if (reason == 0) {
                roads[travellers] = d;
                places[travellers] = NONE;
                waited[travellers] = 0;
                travellers++;
            }
            return reason;
        }

        // Travellers

        boolean hasTraveller(int t) {
            return t >= 0 && t < travellers && t < MOST_TRAVELLERS;
        }

        boolean hasArrived(int t) {
            return hasTraveller(t) && places[t] == ARRIVED;
        }

        int travellerOn(int k) {
            for (int t = 0; t < travellers; t++) {
                if (places[t] >= 0 && cellOf(roads[t], places[t]) == k) {
                    return t;
                }
            }
            return NONE;
        }

        int onTheWay() {
            int many = 0;
            for (int t = 0; t < travellers; t++) {
                many += places[t] != ARRIVED ? 1 : 0;
            }
            return many;
        }

        int onCells() {
            int many = 0;
            for (int t = 0; t < travellers; t++) {
                many += places[t] >= 0 ? 1 : 0;
            }
            return many;
        }

        /** How many arrived in this hour. */
        int passHour() {
            int arrived = 0;
            for (int t = 0; t < travellers; t++) {
                if (places[t] != ARRIVED) {
                    goOn(t);
                    arrived += places[t] == ARRIVED ? 1 : 0;
                }
            }
            hour++;
            return arrived;
        }

        private void goOn(int t) {
            int last = lengths[roads[t]] - 1;
            int next = places[t] + 1;
            boolean goes = next <= last && travellerOn(cellOf(roads[t], next)) == NONE;
            if (goes) {
                places[t] = next;
            }
            // Who is still at the drum of a ribbon taken back whole is on no last cell.
            if (places[t] >= 0 && places[t] == last) {
                places[t] = ARRIVED;
            } else if (!goes) {
                waited[t]++;
            }
        }

        // Deeds told by numbers

        static int deedOver(int d, int turn) {
            return d * 1000 + 10 + turn;
        }

        /** Does a deed if it can be: why it can't. */
        int follow(Land land, long deed) {
            if (deed == NONE) {
                passHour();
                return 0;
            }
            if (deed < 0 || deed > WET_DEEDS + MOST_WET) {
                return 1;
            }
            int v = (int) deed;
            if (v >= WET_DEEDS) {
                wet = v - WET_DEEDS;
                return 0;
            }
            if (v >= OUT_DEEDS) {
                return tryOut(land, v - OUT_DEEDS);
            }
            if (v >= IN_DEEDS) {
                return tryIn(land, v - IN_DEEDS);
            }
            if (v >= BACK_DEEDS) {
                return tryBack(land, v - BACK_DEEDS);
            }
            int over = v / 10 % 100;
            return over > 1 ? 1 : tryLaying(land, v / 1000, v % 10, over == 1);
        }

        /** Deeds of a tray till one can't be: how many. */
        int followAll(Land land, Tray told) {
            int done = 0;
            while (done < told.size && follow(land, told.number(done)) == 0) {
                done++;
            }
            return done;
        }

        /** How many of a season's deeds could be; the land has a drum. */
        int followSeason(Land land, int seed, int times) {
            int x = seed;
            int done = 0;
            int drums = Math.max(1, land.drums);
            for (int i = 0; i < times; i++) {
                x = drawn(x);
                int sort = (x >>> 16) % 6;
                if (sort == 3) {
                    passHour();
                    done++;
                    continue;
                }
                x = drawn(x);
                int d = (x >>> 16) % drums;
                int reason;
                if (sort < 3) {
                    x = drawn(x);
                    int turn = 1 + (x >>> 16) % TURNS;
                    x = drawn(x);
                    reason = tryLaying(land, d, turn, (x >>> 16) % 2 == 1);
                } else {
                    reason = sort == 4 ? tryOut(land, d) : tryIn(land, d);
                }
                done += reason == 0 ? 1 : 0;
            }
            return done;
        }

        private static int drawn(int x) {
            return 1103515245 * x + 12345;
        }
    }

    /** The states ahead of the latest calls that can be undone. */
    static final class Past {
        private final State[] kept = new State[MOST_UNDONE];
        private int next;
        int size;

        Past() {
            for (int i = 0; i < MOST_UNDONE; i++) {
                kept[i] = new State();
            }
        }

        void forget() {
            size = 0;
        }

        void keep(State state) {
            kept[next].copyOf(state);
            next = (next + 1) % MOST_UNDONE;
            size = Math.min(size + 1, MOST_UNDONE);
        }

        /** The state ahead of the latest n calls, which are forgotten; n is 1 to size. */
        void bringBack(int n, State into) {
            next = Math.floorMod(next - n, MOST_UNDONE);
            into.copyOf(kept[next]);
            size -= n;
        }
    }

    /** What restoring goes on from. */
    static final class Image {
        boolean made;
        final Land land = new Land();
        final State state = new State();
    }

    /** Numbers of a sort, or nothing while it is missing. */
    static final class Tray {
        private final long[] held = new long[MOST_NUMBERS];
        private int sort;
        int size = NONE;

        boolean isMissing() {
            return size == NONE;
        }

        void begin(int newSort, int newSize) {
            Arrays.fill(held, 0L);
            sort = newSort;
            size = newSize;
        }

        long number(int i) {
            return i >= 0 && i < size && i < MOST_NUMBERS ? held[i] : 0;
        }

        long put(int i, long v) {
            if (i < 0 || i >= size || i >= MOST_NUMBERS) {
                return 0;
            }
            held[i] = sort == 0 ? (byte) v : sort == 1 ? (short) v : sort == 2 ? (int) v : v;
            return held[i];
        }
    }

    /** Searches the ways of one drum from the end of its ribbon on. */
    static final class Ways {
        // By cell: the least that a way costs (NONE: there is none), how many cells it has.
        final int[] least = new int[MOST_CELLS];
        final int[] steps = new int[MOST_CELLS];
        // The cells of that way, without the one where it begins, as bits.
        final long[] passed = new long[MOST_CELLS];
        // Two bits a turn, the first one highest: of ways alike in length the lesser is first by turns.
        private final long[] turns = new long[MOST_CELLS];
        private final int[] newLeast = new int[MOST_CELLS];
        private final long[] newPassed = new long[MOST_CELLS];
        private final long[] newTurns = new long[MOST_CELLS];
        private final int[] costs = new int[MOST_CELLS];
        // Where the turns from a cell lead, those of each cell one behind the other.
        private final int[] leads = new int[MOST_CELLS * TURNS];
        private int cells;
        private int wide = 1;
        private int start;
        private int longest;
        private long open;
        private long crossed;
        private long eastEdge;
        private long westEdge;

        boolean comesTo(int k) {
            return least[k] != NONE;
        }

        /** What all searches need: where a way begins, where it can go, how far. */
        void begin(Land land, State state, int d) {
            cells = land.cells();
            wide = Math.max(1, land.wide);
            start = state.endOf(land, d);
            longest = MOST_LAID - state.lengths[d];
            open = 0;
            crossed = 0;
            eastEdge = 0;
            westEdge = 0;
            for (int k = 0; k < cells; k++) {
                for (int turn = 1; turn <= TURNS; turn++) {
                    leads[k * TURNS + turn - 1] = land.beside(k, turn);
                }
                eastEdge |= leadOf(k, 2) == NONE ? 1L << k : 0;
                westEdge |= leadOf(k, 4) == NONE ? 1L << k : 0;
                int lying = state.lying(k);
                if (state.isOpen(land, d, k) && land.mayLie(d, k, state.wet, lying)) {
                    open |= 1L << k;
                    crossed |= lying > 0 ? 1L << k : 0;
                }
            }
        }

        /** The short ways. */
        void findShort(Land land, State state, int d) {
            begin(land, state, d);
            for (int k = 0; k < cells; k++) {
                costs[k] = isIn(open, k) ? land.yardsFor(d, k, state.wet) : 0;
            }
            find();
        }

        /** The ways of fewest crossings. */
        void findLeastCrossed(Land land, State state, int d) {
            begin(land, state, d);
            for (int k = 0; k < cells; k++) {
                costs[k] = isIn(crossed, k) ? 1 : 0;
            }
            find();
        }

        // A walk that comes to a cell twice costs no less and is longer than without that loop,
        // so the least of all walks is the least of all ways.
        private void find() {
            Arrays.fill(least, NONE);
            Arrays.fill(steps, 0);
            Arrays.fill(passed, 0L);
            Arrays.fill(turns, 0L);
            least[start] = 0;
            long edge = 1L << start;
            for (int step = 1; step <= longest && edge != 0; step++) {
                edge = findNext(step, edge);
            }
        }

        /** From the cells bettered by one step less: those that are bettered by this step. */
        private long findNext(int step, long edge) {
            long found = 0;
            for (int k = 0; k < cells; k++) {
                for (int turn = 1; turn <= TURNS && isIn(edge, k); turn++) {
                    int to = leadOf(k, turn);
                    if (isIn(open, to) && betters(k, turn, to, found)) {
                        newLeast[to] = least[k] + costs[to];
                        newPassed[to] = passed[k] | 1L << to;
                        newTurns[to] = withTurn(turns[k], turn);
                        found |= 1L << to;
                    }
                }
            }
            for (int k = 0; k < cells; k++) {
                if (isIn(found, k)) {
                    least[k] = newLeast[k];
                    passed[k] = newPassed[k];
                    turns[k] = newTurns[k];
                    steps[k] = step;
                }
            }
            return found;
        }

        private boolean betters(int k, int turn, int to, long found) {
            int cost = least[k] + costs[to];
            if (least[to] != NONE && least[to] <= cost) {
                return false;
            }
            if (!isIn(found, to) || cost < newLeast[to]) {
                return true;
            }
            return cost == newLeast[to] && withTurn(turns[k], turn) < newTurns[to];
        }

        private static long withTurn(long ahead, int turn) {
            return ahead * TURNS + turn - 1;
        }

        /** The i-th turn of the way found, NONE behind its last. */
        int turnOf(int k, int i) {
            if (i < 0 || i >= steps[k]) {
                return NONE;
            }
            return 1 + (int) (turns[k] >>> 2 * (steps[k] - 1 - i) & 3);
        }

        /** Cells to which the way found comes by all of some. */
        long endsBy(long some) {
            long bits = 0;
            for (int k = 0; k < cells; k++) {
                if ((passed[k] & some) == some) {
                    bits |= 1L << k;
                }
            }
            return bits;
        }

        /** Whether there is a way to a cell, were another one a rock. */
        boolean reachesWithout(int k, int rock) {
            long free = open & ~(1L << rock);
            long come = 1L << start;
            for (int step = 0; step < longest && !isIn(come, k); step++) {
                come |= besideAll(come) & free;
            }
            return isIn(come, k);
        }

        private long besideAll(long bits) {
            long northSouth = bits >>> wide | bits << wide;
            return northSouth | (bits & ~eastEdge) << 1 | (bits & ~westEdge) >>> 1;
        }

        /** How many ways of n cells there are to a cell. */
        int howMany(int k, int n) {
            return n > longest ? 0 : manyFrom(start, k, n, open);
        }

        private int manyFrom(int at, int k, int left, long free) {
            if (left <= 0) {
                return at == k ? 1 : 0;
            }
            if (apart(at, k) > left) {
                return 0;
            }
            int many = 0;
            for (int turn = 1; turn <= TURNS; turn++) {
                int to = leadOf(at, turn);
                if (isIn(free, to)) {
                    many += manyFrom(to, k, left - 1, free & ~(1L << to));
                }
            }
            return many;
        }

        private int apart(int a, int b) {
            return Math.abs(a % wide - b % wide) + Math.abs(a / wide - b / wide);
        }

        private int leadOf(int k, int turn) {
            int i = k * TURNS + turn - 1;
            return i >= 0 && i < leads.length ? leads[i] : NONE;
        }

        private static boolean isIn(long bits, int k) {
            return k >= 0 && (bits >>> k & 1) == 1;
        }
    }

    /** Which ribbons lie over which. */
    static final class Piles {
        // Far above the crossings that a land has cells for.
        private static final int UNKNOWN = 1000;

        // By drum: those that lie over it, as bits.
        final int[] overs = new int[MOST_DRUMS];
        // How often a lies over b, at a * 6 + b.
        private final int[] times = new int[MOST_DRUMS * MOST_DRUMS];
        // What is known of each set of ribbons taken in.
        private final int[] known = new int[DRUM_SETS];
        int lying;

        void lookAt(Land land, State state) {
            Arrays.fill(overs, 0);
            Arrays.fill(times, 0);
            lying = 0;
            for (int d = 0; d < land.drums && d < MOST_DRUMS; d++) {
                lying |= state.lengths[d] > 0 ? 1 << d : 0;
            }
            for (int k = 0; k < land.cells(); k++) {
                if (state.lying(k) == 2) {
                    overs[state.lower[k]] |= 1 << state.upper[k];
                    times[state.upper[k] * MOST_DRUMS + state.lower[k]]++;
                }
            }
        }

        /** Those over it, over one of these, and so on. */
        int allOver(int d) {
            int all = overs[d];
            // Each round but the last finds one more at least.
            for (int round = 0; round < MOST_DRUMS; round++) {
                for (int a = 0; a < MOST_DRUMS; a++) {
                    all |= (all >> a & 1) == 1 ? overs[a] : 0;
                }
            }
            return all;
        }

        /** The first of those left over which none of them lies, NONE without one. */
        int firstFree(int left) {
            for (int d = 0; d < MOST_DRUMS; d++) {
                if ((left >> d & 1) == 1 && (overs[d] & left) == 0) {
                    return d;
                }
            }
            return NONE;
        }

        int fewestTurned() {
            Arrays.fill(known, UNKNOWN);
            known[0] = 0;
            for (int in = 0; in < lying; in++) {
                int left = lying & ~in;
                for (int d = 0; d < MOST_DRUMS; d++) {
                    if (known[in] != UNKNOWN && (left >> d & 1) == 1) {
                        int then = in | 1 << d;
                        known[then] = Math.min(known[then], known[in] + timesUnder(d, left));
                    }
                }
            }
            return known[lying];
        }

        private int timesUnder(int d, int left) {
            int sum = 0;
            for (int a = 0; a < MOST_DRUMS; a++) {
                sum += (left >> a & 1) == 1 ? times[a * MOST_DRUMS + d] : 0;
            }
            return sum;
        }

        int howManyOrders() {
            Arrays.fill(known, 0);
            known[0] = 1;
            for (int in = 0; in < lying; in++) {
                int left = lying & ~in;
                for (int d = 0; d < MOST_DRUMS; d++) {
                    if ((left >> d & 1) == 1 && (overs[d] & left) == 0) {
                        known[in | 1 << d] += known[in];
                    }
                }
            }
            return known[lying];
        }
    }
}
