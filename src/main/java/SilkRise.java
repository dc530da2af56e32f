/** A harvest that goes up by silks. What each method answers is told, by promises, in the document. */
public final class SilkRise {
    public static final int NONE = -1;

    private static final int NOT_SO = -2;
    private static final int NO_PULL = -100;
    private static final int NO_SUCH_PULL = -1000;
    private static final int NO_SUCH_SUM = -100000;

    private static final int LOADS = 7;
    private static final int SILKS = 5;
    private static final int HOOKS = 5;
    private static final int LAST_X = 19;
    private static final int MOST_SIZE = 9;
    private static final int MOST_WEIGHT = 9;
    private static final int MOST_PULL = 3;
    private static final int FIRST_RIM = 10;
    private static final int DAY_HOURS = 24;
    private static final int LONGEST_TEXT = 2000;
    private static final int MOST_TOKENS = 400;
    private static final int MOST_HOURS = 72;
    private static final int MOST_SEEDS = 20;
    private static final int LONGEST_WAIT = 24;
    private static final int LONGEST_FLIGHT = 48;
    private static final int LONGEST_SIGHT = 9;
    private static final int MOST_TOLD = 20;
    private static final int MOST_UNDONE = 40;
    private static final int SLOTS = 3;

    private static final int SYNTAX = 1;
    private static final int ROOM = 2;
    private static final int TWICE = 3;
    private static final int WRONG = 5;

    // What is kept of a LOAD, a SILK and a HOOK, by the numbers that load(), silk() and hook() give it.
    private static final int X = 0;
    private static final int WEIGHT = 1;
    private static final int PRICE = 2;
    private static final int STATE = 3;
    private static final int HIGH = 4;
    private static final int ITS_SILK = 5;
    private static final int ITS_HOOK = 6;
    private static final int SIZE = 0;
    private static final int ITS_LOAD = 1;
    private static final int TIMES = 2;
    private static final int PULL = 3;
    private static final int REACH = 1;
    private static final int HANDS = 2;
    private static final int CAUGHT = 3;

    // What is kept of a TOLD one: SIZE, WEIGHT, then these.
    private static final int FROM = 2;
    private static final int BEHIND = 3;
    private static final int SEEN = 4;

    private static final int AT_FOOT = 0;
    private static final int IN_AIR = 1;
    private static final int STORED = 2;
    private static final int GONE_BY = 3;

    private static final int ALOFT = 0;
    private static final int HOOKED = 1;
    private static final int MISSED = 2;
    private static final int LANDED = 3;

    private static final int LIFT = 0;
    private static final int WIND = 1;
    private static final int TIES = 2;
    private static final int PAYS = 3;
    private static final int LAWS = 4;

    private static final int VAR_HOUR = 0;
    private static final int VAR_DAY = 1;
    private static final int VAR_SIZE = 2;
    private static final int VAR_WEIGHT = 3;
    private static final int VAR_HIGH = 4;
    private static final int VAR_ACROSS = 5;
    private static final int VAR_PRICE = 6;
    private static final int VAR_UP = 7;
    private static final int VAR_STORED = 8;
    private static final int VARS = 9;

    private final byte[] tape;
    private int tapeSize;
    private int faultPlace;
    private final Plan plan;
    private final Plan draft;
    private final Reader reader;
    private final State now;
    private final State trial;
    private final Sky sky;
    private final Air air;
    private final Course course;
    private final Filling filling;
    private final Past past;
    private final Things told;

    public SilkRise() {
        tape = new byte[LONGEST_TEXT];
        tapeSize = 0;
        faultPlace = NONE;
        plan = new Plan();
        draft = new Plan();
        reader = new Reader(draft);
        now = new State();
        trial = new State();
        sky = new Sky(plan.laws);
        air = new Air(plan, sky);
        course = new Course(plan, now, sky);
        filling = new Filling(now, sky, course);
        past = new Past();
        told = new Things(MOST_TOLD, SEEN + 1);
    }

    public int feed(int a, int b, int c, int d, int e) {
        if (tapeSize + 20 > LONGEST_TEXT) {
            return NONE;
        }
        appendBytes(a);
        appendBytes(b);
        appendBytes(c);
        appendBytes(d);
        appendBytes(e);
        return tapeSize;
    }

    public int back(int n) {
        if (!isWithin(n, 0, tapeSize)) {
            return NONE;
        }
        tapeSize -= n;
        return tapeSize;
    }

    public int read() {
        int fault = reader.faultOf(tape, tapeSize);
        tapeSize = 0;
        faultPlace = fault == 0 ? NONE : reader.faultPlace();
        if (fault == 0) {
            plan.become(draft);
            now.become(plan.start);
            past.clear();
            told.clear();
        }
        return fault;
    }

    public int place() {
        return faultPlace;
    }

    public int load(int load, int what) {
        return now.loads.at(load, what);
    }

    public int silk(int silk, int what) {
        return what == PULL ? NONE : now.silks.at(silk, what);
    }

    public int pull(int silk) {
        return now.silks.has(silk) ? now.silks.at(silk, PULL) : NO_PULL;
    }

    public int hook(int hook, int what) {
        return now.hooks.at(hook, what);
    }

    public int tells(int load, int silk, int what) {
        boolean needsSilk = what == LIFT || what == TIES;
        if (!isWithin(what, 0, LAWS - 1) || !now.loads.has(load) || needsSilk && !now.silks.has(silk)) {
            return NO_PULL;
        }
        int x = now.loads.at(load, X);
        int weight = now.loads.at(load, WEIGHT);
        sky.begin(now.hour, now.up(), now.stored());
        if (what == LIFT) {
            return sky.lift(now.silks.at(silk, SIZE), weight, 0, x);
        }
        if (what == WIND) {
            return sky.wind(0, x);
        }
        if (what == TIES) {
            return sky.ties(now.silks.at(silk, SIZE), weight);
        }
        return sky.pays(now.loads.at(load, PRICE), weight);
    }

    public int tie(int load, int silk) {
        if (!isPair(load, silk)) {
            return NONE;
        }
        if (!now.isReady(load, silk)) {
            return NOT_SO;
        }
        past.keep(now);
        sky.begin(now.hour, now.up(), now.stored());
        int cost = sky.ties(now.silks.at(silk, SIZE), now.loads.at(load, WEIGHT));
        now.letGo(load, silk);
        now.paid += cost;
        return cost;
    }

    public boolean move(int hook, int x) {
        if (!now.hooks.has(hook) || !isWithin(x, 0, LAST_X) || now.hooks.at(hook, X) == x) {
            return false;
        }
        past.keep(now);
        now.hooks.put(hook, X, x);
        return true;
    }

    public boolean patch(int silk, boolean more) {
        if (!now.isSilkAtFoot(silk)) {
            return false;
        }
        int pull = now.silks.at(silk, PULL) + (more ? 1 : -1);
        if (!isWithin(pull, -MOST_PULL, MOST_PULL)) {
            return false;
        }
        past.keep(now);
        now.silks.put(silk, PULL, pull);
        return true;
    }

    public int hours(int n) {
        if (!isWithin(n, 0, MOST_HOURS)) {
            return NONE;
        }
        if (n > 0) {
            past.keep(now);
            air.pass(now, n, plan.seed);
        }
        return now.hour;
    }

    public boolean undo() {
        return past.undoInto(now);
    }

    public int flight(int load, int silk, int w, int what) {
        if (!isPair(load, silk) || !isWithin(w, 0, LONGEST_WAIT) || !isWithin(what, 0, 3)) {
            return NONE;
        }
        if (!now.isReady(load, silk)) {
            return NOT_SO;
        }
        course.fly(load, silk, now.silks.at(silk, PULL), w);
        switch (what) {
            case 0:
                return course.hours;
            case 1:
                return course.end;
            case 2:
                return course.hook;
            default:
                return course.x;
        }
    }

    public int soon(int load, int silk, int hook) {
        if (!now.isReady(load, silk) || !now.hooks.has(hook)) {
            return NONE;
        }
        int pull = now.silks.at(silk, PULL);
        for (int wait = 0; wait <= LONGEST_WAIT; wait++) {
            course.fly(load, silk, pull, wait);
            if (course.hook == hook) {
                return wait;
            }
        }
        return NOT_SO;
    }

    public int patches(int load, int silk, int hook) {
        if (!now.isReady(load, silk) || !now.hooks.has(hook)) {
            return NO_SUCH_PULL;
        }
        int pull = now.silks.at(silk, PULL);
        for (int away = 0; away <= 2 * MOST_PULL; away++) {
            if (comesTo(load, silk, pull - away, hook)) {
                return pull - away;
            }
            if (comesTo(load, silk, pull + away, hook)) {
                return pull + away;
            }
        }
        return NO_PULL;
    }

    public int near(int x) {
        return isWithin(x, 0, LAST_X) ? now.nearestHook(x, 0) : NONE;
    }

    public int lifts(int silk, int x) {
        if (!now.isSilkAtFoot(silk) || !isWithin(x, 0, LAST_X)) {
            return NONE;
        }
        int size = now.silks.at(silk, SIZE);
        int pull = now.silks.at(silk, PULL);
        for (int weight = MOST_WEIGHT; weight > 0; weight--) {
            course.go(size, weight, pull, x, now.hour, LONGEST_FLIGHT);
            if (course.isAtRim()) {
                return weight;
            }
        }
        return NOT_SO;
    }

    public int fill(int load) {
        if (load != NONE && !now.loads.has(load)) {
            return NO_SUCH_SUM;
        }
        filling.weigh();
        return load == NONE ? filling.most() : filling.silkOf(load);
    }

    public int fewest() {
        int all = 1 << now.hooks.size();
        filling.findHooks();
        int fewest = 0;
        int fewestCount = HOOKS + 1;
        for (int set = 0; set < all; set++) {
            int count = Integer.bitCount(set);
            if (count < fewestCount && filling.isServedBy(set)) {
                fewest = set;
                fewestCount = count;
            }
        }
        return fewest;
    }

    public int waits(int load, int silk, int what) {
        if (!now.isReady(load, silk) || !isWithin(what, 0, 1)) {
            return NO_SUCH_SUM;
        }
        int best = 0;
        int most = gainBehind(load, silk, 0);
        for (int wait = 1; wait <= LONGEST_WAIT; wait++) {
            int gain = gainBehind(load, silk, wait);
            if (gain > most) {
                best = wait;
                most = gain;
            }
        }
        return what == 0 ? best : most;
    }

    public int then(int load, int n, int what) {
        if (!now.loads.has(load) || !isWithin(n, 0, MOST_HOURS) || !isWithin(what, 0, 2)) {
            return NONE;
        }
        tryHours(n, plan.seed);
        if (what == 0) {
            return trial.loads.at(load, STATE);
        }
        return trial.loads.at(load, what == 1 ? X : HIGH);
    }

    public int earns(int n) {
        if (!isWithin(n, 0, MOST_HOURS)) {
            return NONE;
        }
        tryHours(n, plan.seed);
        return trial.earned - now.earned;
    }

    public int year(int load, int n, int s) {
        if (!now.loads.has(load) || !isWithin(n, 0, MOST_HOURS) || !isWithin(s, 1, MOST_SEEDS)) {
            return NONE;
        }
        int count = 0;
        for (int i = 0; i < s; i++) {
            tryHours(n, plan.seed + i);
            if (trial.loads.at(load, STATE) == STORED) {
                count++;
            }
        }
        return count;
    }

    public int tell(int size, int weight, int x, int n, int at) {
        boolean known = isWithin(size, 1, MOST_SIZE) && isWithin(weight, 1, MOST_WEIGHT)
                && isWithin(x, 0, LAST_X) && isWithin(n, 1, LONGEST_SIGHT) && isWithin(at, 0, LAST_X);
        if (!known || told.isFull()) {
            return NONE;
        }
        int i = told.add();
        told.put(i, SIZE, size);
        told.put(i, WEIGHT, weight);
        told.put(i, FROM, x);
        told.put(i, BEHIND, n);
        told.put(i, SEEN, at);
        return i;
    }

    public int forget() {
        int size = told.size();
        told.clear();
        return size;
    }

    public int pulls(int k, int what) {
        if (!isWithin(k, 0, told.size()) || !isWithin(what, 0, 1)) {
            return NONE;
        }
        int which = pullsKnownBy(k);
        return what == 0 ? Integer.bitCount(which) : which;
    }

    public int sure(int k) {
        if (!isWithin(k, 0, told.size())) {
            return NO_SUCH_PULL;
        }
        int which = pullsKnownBy(k);
        for (int pull = -MOST_PULL; pull <= MOST_PULL; pull++) {
            if (which == bitOf(pull)) {
                return pull;
            }
        }
        return NO_PULL;
    }

    public boolean hold(int slot) {
        return past.holdIn(slot, now);
    }

    public boolean restore(int slot) {
        return past.restoreFrom(slot, now);
    }

    public int count(int what) {
        switch (what) {
            case 0:
                return now.loads.size();
            case 1:
                return now.silks.size();
            case 2:
                return now.hooks.size();
            case 3:
                return now.hour;
            case 4:
                return now.loadsThat(AT_FOOT);
            case 5:
                return now.loadsThat(IN_AIR);
            case 6:
                return now.loadsThat(STORED);
            case 7:
                return now.loadsThat(GONE_BY);
            case 8:
                return now.earned;
            case 9:
                return now.paid;
            case 10:
                return tapeSize;
            case 11:
                return past.depth();
            case 12:
                return told.size();
            case 13:
                return past.held();
            case 14:
                return air.isGust(now.hour, plan.seed) ? 1 : 0;
            case 15:
                return plan.rim;
            default:
                return NONE;
        }
    }

    private static boolean isWithin(int value, int least, int most) {
        return value >= least && value <= most;
    }

    private static int keptWithin(int value, int least, int most) {
        return Math.max(least, Math.min(most, value));
    }

    private void appendBytes(int word) {
        for (int shift = 24; shift >= 0; shift -= 8) {
            if (tapeSize < tape.length) {
                tape[tapeSize] = (byte) (word >>> shift);
                tapeSize++;
            }
        }
    }

    private boolean isPair(int load, int silk) {
        return now.loads.has(load) && now.silks.has(silk);
    }

    private boolean comesTo(int load, int silk, int pull, int hook) {
        if (!isWithin(pull, -MOST_PULL, MOST_PULL)) {
            return false;
        }
        course.fly(load, silk, pull, 0);
        return course.hook == hook;
    }

    private int gainBehind(int load, int silk, int wait) {
        course.fly(load, silk, now.silks.at(silk, PULL), wait);
        sky.begin(now.hour + wait, 0, now.stored());
        int cost = sky.ties(now.silks.at(silk, SIZE), now.loads.at(load, WEIGHT));
        return course.earned - cost - wait;
    }

    private void tryHours(int n, int seed) {
        trial.become(now);
        air.pass(trial, n, seed);
    }

    private static int bitOf(int pull) {
        return 1 << (pull + MOST_PULL);
    }

    private int pullsKnownBy(int k) {
        int which = 0;
        for (int pull = -MOST_PULL; pull <= MOST_PULL; pull++) {
            if (fitsKnown(k, pull)) {
                which |= bitOf(pull);
            }
        }
        return which;
    }

    private boolean fitsKnown(int k, int pull) {
        for (int i = 0; i < k; i++) {
            course.go(told.at(i, SIZE), told.at(i, WEIGHT), pull, told.at(i, FROM), now.hour, told.at(i, BEHIND));
            if (course.end != ALOFT || course.x != told.at(i, SEEN)) {
                return false;
            }
        }
        return true;
    }

    /** Things of one sort, numbered from 0 on, and what is kept of each: the one place where their cells are reached. */
    private static final class Things {
        private final int most;
        private final int width;
        private final int[] cells;
        private int size;

        Things(int most, int width) {
            this.most = most;
            this.width = width;
            this.cells = new int[most * width];
            this.size = 0;
        }

        int size() {
            return size;
        }

        boolean has(int i) {
            return i >= 0 && i < size;
        }

        boolean isFull() {
            return size >= most;
        }

        void clear() {
            size = 0;
        }

        int at(int i, int what) {
            return i >= 0 && i < size && what >= 0 && what < width ? cells[i * width + what] : NONE;
        }

        void put(int i, int what, int value) {
            if (i >= 0 && i < size && what >= 0 && what < width) {
                cells[i * width + what] = value;
            }
        }

        int add() {
            if (isFull()) {
                return NONE;
            }
            size++;
            for (int what = 0; what < width; what++) {
                put(size - 1, what, 0);
            }
            return size - 1;
        }

        void become(Things from) {
            System.arraycopy(from.cells, 0, cells, 0, Math.min(cells.length, from.cells.length));
            size = Math.min(most, from.size);
        }
    }

    /** All that goes on: what is undone, held and gone on from. */
    private static final class State {
        private final Things loads;
        private final Things silks;
        private final Things hooks;
        private int hour;
        private int earned;
        private int paid;

        State() {
            loads = new Things(LOADS, ITS_HOOK + 1);
            silks = new Things(SILKS, PULL + 1);
            hooks = new Things(HOOKS, CAUGHT + 1);
            hour = 0;
            earned = 0;
            paid = 0;
        }

        void clear() {
            loads.clear();
            silks.clear();
            hooks.clear();
            hour = 0;
            earned = 0;
            paid = 0;
        }

        void become(State from) {
            loads.become(from.loads);
            silks.become(from.silks);
            hooks.become(from.hooks);
            hour = from.hour;
            earned = from.earned;
            paid = from.paid;
        }

        int loadsThat(int state) {
            int bits = 0;
            for (int load = 0; load < loads.size(); load++) {
                if (loads.at(load, STATE) == state) {
                    bits |= 1 << load;
                }
            }
            return bits;
        }

        int up() {
            return Integer.bitCount(loadsThat(IN_AIR));
        }

        int stored() {
            return Integer.bitCount(loadsThat(STORED));
        }

        boolean isLoadAtFoot(int load) {
            return loads.has(load) && loads.at(load, STATE) == AT_FOOT;
        }

        boolean isSilkAtFoot(int silk) {
            return silks.has(silk) && silks.at(silk, ITS_LOAD) == NOT_SO;
        }

        boolean isReady(int load, int silk) {
            return isLoadAtFoot(load) && isSilkAtFoot(silk);
        }

        void letGo(int load, int silk) {
            loads.put(load, STATE, IN_AIR);
            loads.put(load, HIGH, 0);
            loads.put(load, ITS_SILK, silk);
            silks.put(silk, ITS_LOAD, load);
            silks.put(silk, TIMES, silks.at(silk, TIMES) + 1);
        }

        /** Whatever becomes of the LOAD, its SILK comes down. */
        void bringDown(int load, int state) {
            silks.put(loads.at(load, ITS_SILK), ITS_LOAD, NOT_SO);
            loads.put(load, STATE, state);
            loads.put(load, HIGH, 0);
            loads.put(load, ITS_SILK, NOT_SO);
        }

        int nearestHook(int x, int busy) {
            int nearest = NOT_SO;
            int least = LAST_X + 1;
            for (int hook = 0; hook < hooks.size(); hook++) {
                int away = Math.abs(hooks.at(hook, X) - x);
                if (away < least && away <= hooks.at(hook, REACH) && (busy >> hook & 1) == 0) {
                    nearest = hook;
                    least = away;
                }
            }
            return nearest;
        }

        int hooksReaching(int x) {
            int bits = 0;
            for (int hook = 0; hook < hooks.size(); hook++) {
                if (Math.abs(hooks.at(hook, X) - x) <= hooks.at(hook, REACH)) {
                    bits |= 1 << hook;
                }
            }
            return bits;
        }
    }

    /** The LAWS as steps for a machine with a stack: a cell from 0 on is an INT, one below 0 is one of those named here. */
    private static final class Laws {
        private static final int ADD = -1;
        private static final int SUBTRACT = -2;
        private static final int MULTIPLY = -3;
        private static final int DIVIDE = -4;
        // If the one is not less than the other, it goes on at the cell whose number stands behind this.
        private static final int LESS = -5;
        private static final int END = -6;
        private static final int FIRST_VAR = -10;
        // Each TOKEN makes one cell at most, LESS a second one in place of the 'if'; the LAWS not told make some ten.
        private static final int MOST_CELLS = MOST_TOKENS + 32;

        private final int[] cells;
        private final int[] starts;
        private int used;

        Laws() {
            cells = new int[MOST_CELLS];
            starts = new int[LAWS];
            used = 0;
        }

        void clear() {
            used = 0;
            begin(LIFT);
            add(FIRST_VAR - VAR_SIZE);
            add(FIRST_VAR - VAR_WEIGHT);
            add(SUBTRACT);
            add(END);
            begin(WIND);
            add(0);
            add(END);
            begin(TIES);
            add(FIRST_VAR - VAR_WEIGHT);
            add(END);
            begin(PAYS);
            add(FIRST_VAR - VAR_PRICE);
            add(END);
        }

        void become(Laws from) {
            System.arraycopy(from.cells, 0, cells, 0, cells.length);
            System.arraycopy(from.starts, 0, starts, 0, starts.length);
            used = from.used;
        }

        void begin(int law) {
            if (law >= 0 && law < starts.length) {
                starts[law] = used;
            }
        }

        int startOf(int law) {
            return law >= 0 && law < starts.length ? starts[law] : used;
        }

        void add(int cell) {
            if (used < cells.length) {
                cells[used] = cell;
                used++;
            }
        }

        int addLess() {
            add(LESS);
            add(0);
            return used - 1;
        }

        void goHereFrom(int place) {
            if (place >= 0 && place < used) {
                cells[place] = used;
            }
        }

        int cell(int place) {
            return place >= 0 && place < used ? cells[place] : END;
        }

        int size() {
            return used;
        }
    }

    /** What a text tells: how it begins, and what holds as long as it is the one. */
    private static final class Plan {
        private final State start;
        private final Laws laws;
        private int rim;
        private int gusts;
        private int seed;

        Plan() {
            start = new State();
            laws = new Laws();
            clear();
        }

        void clear() {
            start.clear();
            laws.clear();
            rim = FIRST_RIM;
            gusts = 0;
            seed = 0;
        }

        void become(Plan from) {
            start.become(from.start);
            laws.become(from.laws);
            rim = from.rim;
            gusts = from.gusts;
            seed = from.seed;
        }
    }

    /** The TOKENS of a tape: all that a text may have and one more, or as far as they are some. */
    private static final class Tokens {
        private static final int END = 0;
        private static final int NO_TOKEN = 1;
        private static final int NAME = 2;
        private static final int INT = 3;
        // A SIGN is told by its byte; from here on are the words, as they stand in WORDS.
        private static final int FIRST_WORD = 128;
        private static final int LOAD = FIRST_WORD;
        private static final int SILK = FIRST_WORD + 1;
        private static final int HOOK = FIRST_WORD + 2;
        private static final int FIRST_LAW = FIRST_WORD + 3;
        private static final int RIM = FIRST_WORD + 7;
        private static final int GUSTS = FIRST_WORD + 8;
        private static final int SEED = FIRST_WORD + 9;
        private static final int IF = FIRST_WORD + 10;
        private static final int THEN = FIRST_WORD + 11;
        private static final int ELSE = FIRST_WORD + 12;
        private static final int FIRST_VAR = FIRST_WORD + 13;
        private static final int COUNT_OF_WORDS = 22;
        private static final int LONGEST_WORD = 8;
        private static final int LONGEST_INT = 4;
        private static final String SIGNS = ";=+-*/<()";
        private static final String WORDS = "load silk hook lift wind ties pays rim gusts seed if then else hour day size weight high across price up stored ";

        private final long[] words;
        private final int[] kinds;
        private final int[] places;
        // The number of an INT; the letters of a NAME, in five bits each.
        private final long[] values;
        private int size;
        private byte[] tape;
        private int tapeSize;
        private int next;

        Tokens() {
            words = new long[COUNT_OF_WORDS];
            kinds = new int[MOST_TOKENS + 1];
            places = new int[MOST_TOKENS + 1];
            values = new long[MOST_TOKENS + 1];
            size = 0;
            tape = new byte[0];
            tapeSize = 0;
            next = 0;
            int word = 0;
            for (int i = 0; i < WORDS.length() && word < words.length; i++) {
                char c = WORDS.charAt(i);
                if (c == ' ') {
                    word++;
                } else {
                    words[word] = withLetter(words[word], c);
                }
            }
        }

        void scan(byte[] bytes, int length) {
            tape = bytes;
            tapeSize = Math.min(length, bytes.length);
            next = 0;
            size = 0;
            for (int i = 0; i < kinds.length; i++) {
                scanOne();
            }
        }

        int kindAt(int i) {
            return i >= 0 && i < size ? kinds[i] : NO_TOKEN;
        }

        int placeAt(int i) {
            return i >= 0 && i < size ? places[i] : tapeSize;
        }

        long valueAt(int i) {
            return i >= 0 && i < size ? values[i] : 0;
        }

        private void scanOne() {
            while (next < tapeSize && isBlank(byteAt(next))) {
                next++;
            }
            int b = byteAt(next);
            if (next >= tapeSize) {
                add(END, next, 0);
            } else if (isLetter(b)) {
                scanLetters();
            } else if (isDigit(b)) {
                scanDigits();
            } else {
                add(SIGNS.indexOf((char) b) >= 0 ? b : NO_TOKEN, next, 0);
                next++;
            }
        }

        private void add(int kind, int place, long value) {
            if (size < kinds.length && size < places.length && size < values.length) {
                kinds[size] = kind;
                places[size] = place;
                values[size] = value;
                size++;
            }
        }

        private int byteAt(int i) {
            return i >= 0 && i < tapeSize ? tape[i] & 255 : 0;
        }

        private static boolean isBlank(int b) {
            return b == 9 || b == 10 || b == 13 || b == 32;
        }

        private static boolean isLetter(int b) {
            return b >= 'a' && b <= 'z';
        }

        private static boolean isDigit(int b) {
            return b >= '0' && b <= '9';
        }

        private static long withLetter(long letters, int letter) {
            return letters * 32 + (letter - 'a' + 1);
        }

        private void scanLetters() {
            int first = next;
            long letters = 0;
            while (next < tapeSize && isLetter(byteAt(next))) {
                letters = withLetter(letters, byteAt(next));
                next++;
            }
            add(next - first > LONGEST_WORD ? NO_TOKEN : kindOf(letters), first, letters);
        }

        private int kindOf(long letters) {
            for (int word = 0; word < words.length; word++) {
                if (words[word] == letters) {
                    return FIRST_WORD + word;
                }
            }
            return NAME;
        }

        private void scanDigits() {
            int first = next;
            int number = 0;
            while (next < tapeSize && isDigit(byteAt(next))) {
                number = number * 10 + (byteAt(next) - '0');
                next++;
            }
            add(next - first > LONGEST_INT ? NO_TOKEN : INT, first, number);
        }
    }

    /** Reads a tape into a draft, as far as there is no FAULT. */
    private static final class Reader {
        private static final int MOST_IFS = 4;
        private static final int MOST_WITHIN = 6;

        private final Tokens tokens;
        private final Plan draft;
        private final long[] names;
        private int named;
        // The TOKEN in hand: how many are taken.
        private int taken;
        private int kind;
        private int fault;
        private int faultPlace;
        // TWICE and WRONG count only if the whole text has no other FAULT.
        private int lateFault;
        private int latePlace;

        Reader(Plan draft) {
            this.tokens = new Tokens();
            this.draft = draft;
            this.names = new long[LOADS + SILKS + HOOKS];
            this.named = 0;
            this.taken = 0;
            this.kind = Tokens.END;
            this.fault = 0;
            this.faultPlace = NONE;
            this.lateFault = 0;
            this.latePlace = NONE;
        }

        int faultPlace() {
            return faultPlace;
        }

        int faultOf(byte[] tape, int size) {
            draft.clear();
            named = 0;
            taken = 0;
            fault = 0;
            faultPlace = NONE;
            lateFault = 0;
            latePlace = NONE;
            tokens.scan(tape, size);
            kind = tokens.kindAt(0);
            for (int i = 0; i <= MOST_TOKENS && fault == 0 && kind != Tokens.END; i++) {
                statement();
            }
            if (fault == 0) {
                fault = lateFault;
                faultPlace = latePlace;
            }
            return fault;
        }

        private void statement() {
            switch (kind) {
                case Tokens.LOAD:
                    loadStatement();
                    break;
                case Tokens.SILK:
                    silkStatement();
                    break;
                case Tokens.HOOK:
                    hookStatement();
                    break;
                case Tokens.RIM:
                    draft.rim = setting(1, 99);
                    break;
                case Tokens.GUSTS:
                    draft.gusts = setting(0, 100);
                    break;
                case Tokens.SEED:
                    draft.seed = setting(0, 9999);
                    break;
                default:
                    lawStatement(kind - Tokens.FIRST_LAW);
                    break;
            }
            take(';');
        }

        private void loadStatement() {
            Things loads = draft.start.loads;
            takeFirst(loads);
            takeName();
            int load = loads.add();
            loads.put(load, X, takeNumber(1, 0, LAST_X));
            loads.put(load, WEIGHT, takeNumber(1, 1, MOST_WEIGHT));
            loads.put(load, PRICE, takeNumber(1, 0, 99));
            loads.put(load, STATE, AT_FOOT);
            loads.put(load, ITS_SILK, NOT_SO);
            loads.put(load, ITS_HOOK, NOT_SO);
        }

        private void silkStatement() {
            Things silks = draft.start.silks;
            takeFirst(silks);
            takeName();
            int silk = silks.add();
            silks.put(silk, SIZE, takeNumber(1, 1, MOST_SIZE));
            int sign = 1;
            if (kind == '-') {
                take('-');
                sign = -1;
            }
            silks.put(silk, PULL, takeNumber(sign, -MOST_PULL, MOST_PULL));
            silks.put(silk, ITS_LOAD, NOT_SO);
        }

        private void hookStatement() {
            Things hooks = draft.start.hooks;
            takeFirst(hooks);
            takeName();
            int hook = hooks.add();
            hooks.put(hook, X, takeNumber(1, 0, LAST_X));
            hooks.put(hook, REACH, takeNumber(1, 0, 5));
            hooks.put(hook, HANDS, takeNumber(1, 1, 9));
        }

        private int setting(int least, int most) {
            take(kind);
            return takeNumber(1, least, most);
        }

        private void lawStatement(int law) {
            if (!isWithin(law, 0, LAWS - 1)) {
                fail(SYNTAX);
                return;
            }
            take(kind);
            take('=');
            draft.laws.begin(law);
            for (int ifs = 0; ifs <= MOST_IFS && fault == 0 && kind == Tokens.IF; ifs++) {
                if (ifs >= MOST_IFS) {
                    fail(ROOM);
                }
                take(Tokens.IF);
                sum(0);
                take('<');
                sum(0);
                take(Tokens.THEN);
                int otherwise = draft.laws.addLess();
                sum(0);
                take(Tokens.ELSE);
                draft.laws.add(Laws.END);
                draft.laws.goHereFrom(otherwise);
            }
            sum(0);
            draft.laws.add(Laws.END);
        }

        private void sum(int within) {
            product(within);
            for (int i = 0; i < MOST_TOKENS && fault == 0 && (kind == '+' || kind == '-'); i++) {
                int step = kind == '+' ? Laws.ADD : Laws.SUBTRACT;
                take(kind);
                product(within);
                draft.laws.add(step);
            }
        }

        private void product(int within) {
            unit(within);
            for (int i = 0; i < MOST_TOKENS && fault == 0 && (kind == '*' || kind == '/'); i++) {
                int step = kind == '*' ? Laws.MULTIPLY : Laws.DIVIDE;
                take(kind);
                unit(within);
                draft.laws.add(step);
            }
        }

        private void unit(int within) {
            if (fault != 0) {
                return;
            }
            int var = kind - Tokens.FIRST_VAR;
            if (kind == Tokens.INT) {
                draft.laws.add((int) tokens.valueAt(taken));
                take(Tokens.INT);
            } else if (isWithin(var, 0, VARS - 1)) {
                draft.laws.add(Laws.FIRST_VAR - var);
                take(kind);
            } else if (kind != '(') {
                fail(SYNTAX);
            } else if (within >= MOST_WITHIN) {
                fail(ROOM);
            } else {
                take('(');
                sum(within + 1);
                take(')');
            }
        }

        private boolean take(int due) {
            if (fault == 0 && kind != due) {
                fail(SYNTAX);
            }
            if (fault == 0 && taken >= MOST_TOKENS) {
                fail(ROOM);
            }
            if (fault != 0) {
                return false;
            }
            taken++;
            kind = tokens.kindAt(taken);
            return true;
        }

        private void takeFirst(Things sort) {
            if (sort.isFull()) {
                fail(ROOM);
            }
            take(kind);
        }

        private void takeName() {
            long name = tokens.valueAt(taken);
            int place = tokens.placeAt(taken);
            if (!take(Tokens.NAME)) {
                return;
            }
            for (int i = 0; i < named && i < names.length; i++) {
                if (names[i] == name) {
                    failLate(TWICE, place);
                }
            }
            if (named < names.length) {
                names[named] = name;
                named++;
            }
        }

        private int takeNumber(int sign, int least, int most) {
            int value = sign * (int) tokens.valueAt(taken);
            int place = tokens.placeAt(taken);
            if (take(Tokens.INT) && !isWithin(value, least, most)) {
                failLate(WRONG, place);
            }
            return value;
        }

        private void fail(int told) {
            if (fault == 0) {
                fault = told;
                faultPlace = tokens.placeAt(taken);
            }
        }

        private void failLate(int told, int place) {
            if (lateFault == 0) {
                lateFault = told;
                latePlace = place;
            }
        }
    }

    /** What the LAWS tell at a time; the time stays as it was begun, however far the LOADS have come. */
    private static final class Sky {
        // Six ( within one another leave two behind each, one more than they have, and the left side of a '<'.
        private static final int STACK = 24;

        private final Laws laws;
        private final int[] vars;
        private final int[] stack;

        Sky(Laws laws) {
            this.laws = laws;
            this.vars = new int[VARS];
            this.stack = new int[STACK];
        }

        void begin(int hour, int up, int stored) {
            vars[VAR_HOUR] = hour % DAY_HOURS;
            vars[VAR_DAY] = hour / DAY_HOURS;
            vars[VAR_UP] = up;
            vars[VAR_STORED] = stored;
        }

        int lift(int size, int weight, int high, int across) {
            look(size, weight, high, across, 0);
            return keptWithin(valueOf(LIFT), -9, 9);
        }

        int wind(int high, int across) {
            look(0, 0, high, across, 0);
            return keptWithin(valueOf(WIND), -3, 3);
        }

        int ties(int size, int weight) {
            look(size, weight, 0, 0, 0);
            return keptWithin(valueOf(TIES), 0, 99);
        }

        int pays(int price, int weight) {
            look(0, weight, 0, 0, price);
            return keptWithin(valueOf(PAYS), 0, 99);
        }

        private void look(int size, int weight, int high, int across, int price) {
            vars[VAR_SIZE] = size;
            vars[VAR_WEIGHT] = weight;
            vars[VAR_HIGH] = high;
            vars[VAR_ACROSS] = across;
            vars[VAR_PRICE] = price;
        }

        private int valueOf(int law) {
            int place = laws.startOf(law);
            int depth = 0;
            for (int steps = 0; steps < laws.size(); steps++) {
                int cell = laws.cell(place);
                place++;
                if (cell >= 0 || cell <= Laws.FIRST_VAR) {
                    if (depth >= stack.length) {
                        return 0;
                    }
                    stack[depth] = cell >= 0 ? cell : varOf(cell);
                    depth++;
                    continue;
                }
                int right = onStack(depth - 1);
                int left = onStack(depth - 2);
                if (cell == Laws.END) {
                    return right;
                }
                if (depth < 2 || cell == Laws.DIVIDE && right == 0) {
                    return 0;
                }
                depth -= 2;
                if (cell == Laws.LESS) {
                    place = left < right ? place + 1 : laws.cell(place);
                } else {
                    stack[depth] = joined(cell, left, right);
                    depth++;
                }
            }
            return 0;
        }

        private int varOf(int cell) {
            int var = Laws.FIRST_VAR - cell;
            return var >= 0 && var < vars.length ? vars[var] : 0;
        }

        private int onStack(int i) {
            return i >= 0 && i < stack.length ? stack[i] : 0;
        }

        private static int joined(int cell, int left, int right) {
            switch (cell) {
                case Laws.ADD:
                    return left + right;
                case Laws.SUBTRACT:
                    return left - right;
                case Laws.MULTIPLY:
                    return left * right;
                default:
                    return right == 0 ? 0 : left / right;
            }
        }
    }

    /** How HOURS go by for all LOADS in the air. */
    private static final class Air {
        private static final int LOTS = 100;

        private final Plan plan;
        private final Sky sky;
        private final int[] handsFull;

        Air(Plan plan, Sky sky) {
            this.plan = plan;
            this.sky = sky;
            this.handsFull = new int[HOOKS];
        }

        boolean isGust(int hour, int seed) {
            int h = stirred(stirred(seed, 113), 4 * hour);
            return (h >>> 1) % LOTS < plan.gusts;
        }

        private static int stirred(int h, int it) {
            int mixed = (h ^ it) * 1103515245 + 12345;
            return mixed ^ mixed >>> 15;
        }

        void pass(State state, int n, int seed) {
            for (int i = 0; i < n; i++) {
                if (state.up() == 0) {
                    // With nothing in the air an hour changes nothing but the time.
                    state.hour += n - i;
                    return;
                }
                passOne(state, isGust(state.hour, seed));
            }
        }

        private void passOne(State state, boolean gust) {
            int inAir = state.loadsThat(IN_AIR);
            sky.begin(state.hour, state.up(), state.stored());
            for (int load = 0; load < state.loads.size(); load++) {
                if ((inAir >> load & 1) != 0) {
                    drift(state, load, gust);
                }
            }
            for (int hook = 0; hook < handsFull.length; hook++) {
                handsFull[hook] = 0;
            }
            for (int load = 0; load < state.loads.size(); load++) {
                boolean flies = (inAir >> load & 1) != 0;
                if (flies && state.loads.at(load, HIGH) >= plan.rim) {
                    comeToRim(state, load);
                } else if (flies && state.loads.at(load, HIGH) <= 0) {
                    state.bringDown(load, AT_FOOT);
                }
            }
            state.hour++;
        }

        private void drift(State state, int load, boolean gust) {
            int silk = state.loads.at(load, ITS_SILK);
            int high = state.loads.at(load, HIGH);
            int x = state.loads.at(load, X);
            int lift = sky.lift(state.silks.at(silk, SIZE), state.loads.at(load, WEIGHT), high, x);
            int wind = sky.wind(high, x);
            int more = gust && wind != 0 ? (wind > 0 ? 1 : -1) : 0;
            int aside = state.silks.at(silk, PULL) + wind + more;
            state.loads.put(load, HIGH, high + lift);
            state.loads.put(load, X, keptWithin(x + aside, 0, LAST_X));
        }

        private void comeToRim(State state, int load) {
            int hook = state.nearestHook(state.loads.at(load, X), busyHooks(state));
            if (hook < 0 || hook >= handsFull.length) {
                state.bringDown(load, GONE_BY);
                return;
            }
            handsFull[hook]++;
            state.bringDown(load, STORED);
            state.loads.put(load, ITS_HOOK, hook);
            state.hooks.put(hook, CAUGHT, state.hooks.at(hook, CAUGHT) | 1 << load);
            state.earned += sky.pays(state.loads.at(load, PRICE), state.loads.at(load, WEIGHT));
        }

        private int busyHooks(State state) {
            int busy = 0;
            for (int hook = 0; hook < handsFull.length; hook++) {
                if (handsFull[hook] >= state.hooks.at(hook, HANDS)) {
                    busy |= 1 << hook;
                }
            }
            return busy;
        }
    }

    /** The way of one LOAD alone in the air, without GUSTS; nothing of it happens. */
    private static final class Course {
        private final Plan plan;
        private final State now;
        private final Sky sky;
        private int hours;
        private int end;
        private int hook;
        private int x;
        private int earned;

        Course(Plan plan, State now, Sky sky) {
            this.plan = plan;
            this.now = now;
            this.sky = sky;
            this.hours = 0;
            this.end = ALOFT;
            this.hook = NOT_SO;
            this.x = 0;
            this.earned = 0;
        }

        boolean isAtRim() {
            return end == HOOKED || end == MISSED;
        }

        void fly(int load, int silk, int pull, int wait) {
            int weight = now.loads.at(load, WEIGHT);
            go(now.silks.at(silk, SIZE), weight, pull, now.loads.at(load, X), now.hour + wait, LONGEST_FLIGHT);
            // The sky still is as the last hour began, which is when PAYS counts.
            earned = end == HOOKED ? sky.pays(now.loads.at(load, PRICE), weight) : 0;
        }

        void go(int size, int weight, int pull, int from, int hour, int most) {
            int stored = now.stored();
            int high = 0;
            hours = 0;
            end = ALOFT;
            hook = NOT_SO;
            x = from;
            for (int i = 0; i < most && end == ALOFT; i++) {
                sky.begin(hour + i, 1, stored);
                int lift = sky.lift(size, weight, high, x);
                int wind = sky.wind(high, x);
                high += lift;
                x = keptWithin(x + pull + wind, 0, LAST_X);
                endAt(high, i + 1);
            }
        }

        private void endAt(int high, int behind) {
            if (high >= plan.rim) {
                hook = now.nearestHook(x, 0);
                end = hook == NOT_SO ? MISSED : HOOKED;
                hours = behind;
            } else if (high <= 0) {
                end = LANDED;
                hours = behind;
            }
        }
    }

    /** Which SILKS for which LOADS, and which HOOKS would do. */
    private static final class Filling {
        private static final int SETS = 1 << SILKS;
        private static final int NEVER = -1000000;

        private final State now;
        private final Sky sky;
        private final Course course;
        // What a LOAD by a SILK brings.
        private final int[][] gains;
        // What the LOADS from one on bring at most, when a set of SILKS is gone.
        private final int[][] best;
        // The HOOKS, any of which would do for a LOAD.
        private final int[] hooks;

        Filling(State now, Sky sky, Course course) {
            this.now = now;
            this.sky = sky;
            this.course = course;
            this.gains = new int[LOADS][SILKS];
            this.best = new int[LOADS + 1][SETS];
            this.hooks = new int[LOADS];
        }

        void weigh() {
            for (int load = 0; load < LOADS; load++) {
                for (int silk = 0; silk < SILKS; silk++) {
                    gains[load][silk] = now.isReady(load, silk) ? gainOf(load, silk) : NEVER;
                }
            }
            for (int set = 0; set < SETS; set++) {
                best[LOADS][set] = 0;
            }
            for (int load = LOADS - 1; load >= 0; load--) {
                for (int set = 0; set < SETS; set++) {
                    best[load][set] = bestFrom(load, set);
                }
            }
        }

        private int gainOf(int load, int silk) {
            course.fly(load, silk, now.silks.at(silk, PULL), 0);
            if (course.end != HOOKED) {
                return NEVER;
            }
            sky.begin(now.hour, now.up(), now.stored());
            return course.earned - sky.ties(now.silks.at(silk, SIZE), now.loads.at(load, WEIGHT));
        }

        private int bestFrom(int load, int gone) {
            int most = best[load + 1][gone];
            for (int silk = 0; silk < SILKS; silk++) {
                most = Math.max(most, sumBy(load, silk, gone));
            }
            return most;
        }

        private int sumBy(int load, int silk, int gone) {
            if ((gone >> silk & 1) != 0 || gains[load][silk] == NEVER) {
                return NEVER;
            }
            return gains[load][silk] + best[load + 1][gone | 1 << silk];
        }

        int most() {
            return best[0][0];
        }

        int silkOf(int load) {
            int gone = 0;
            int silk = NOT_SO;
            for (int i = 0; i <= load && i < LOADS; i++) {
                silk = firstBest(i, gone);
                if (silk >= 0) {
                    gone |= 1 << silk;
                }
            }
            return silk;
        }

        private int firstBest(int load, int gone) {
            for (int silk = 0; silk < SILKS; silk++) {
                if (sumBy(load, silk, gone) == best[load][gone]) {
                    return silk;
                }
            }
            return NOT_SO;
        }

        void findHooks() {
            for (int load = 0; load < LOADS; load++) {
                hooks[load] = 0;
                for (int silk = 0; silk < SILKS; silk++) {
                    if (now.isReady(load, silk)) {
                        hooks[load] |= hooksFor(load, silk);
                    }
                }
            }
        }

        private int hooksFor(int load, int silk) {
            course.fly(load, silk, now.silks.at(silk, PULL), 0);
            return course.isAtRim() ? now.hooksReaching(course.x) : 0;
        }

        boolean isServedBy(int set) {
            for (int load = 0; load < LOADS; load++) {
                if (hooks[load] != 0 && (hooks[load] & set) == 0) {
                    return false;
                }
            }
            return true;
        }
    }

    /** What can be undone, and what is held. */
    private static final class Past {
        private final State[] done;
        private int next;
        private int depth;
        private final State[] slots;
        private int heldSlots;

        Past() {
            done = new State[MOST_UNDONE];
            for (int i = 0; i < MOST_UNDONE; i++) {
                done[i] = new State();
            }
            slots = new State[SLOTS];
            for (int i = 0; i < SLOTS; i++) {
                slots[i] = new State();
            }
            next = 0;
            depth = 0;
            heldSlots = 0;
        }

        void clear() {
            depth = 0;
            heldSlots = 0;
        }

        int depth() {
            return depth;
        }

        int held() {
            return Integer.bitCount(heldSlots);
        }

        void keep(State now) {
            if (next < 0 || next >= done.length) {
                return;
            }
            done[next].become(now);
            next = next + 1 < done.length ? next + 1 : 0;
            depth = Math.min(depth + 1, MOST_UNDONE);
        }

        boolean undoInto(State now) {
            int last = next > 0 ? next - 1 : done.length - 1;
            if (depth == 0 || last >= done.length) {
                return false;
            }
            next = last;
            depth--;
            now.become(done[last]);
            return true;
        }

        private boolean isSlot(int slot) {
            return slot >= 0 && slot < slots.length;
        }

        boolean holdIn(int slot, State now) {
            if (!isSlot(slot)) {
                return false;
            }
            slots[slot].become(now);
            heldSlots |= 1 << slot;
            return true;
        }

        boolean restoreFrom(int slot, State now) {
            if (!isSlot(slot) || (heldSlots >> slot & 1) == 0) {
                return false;
            }
            now.become(slots[slot]);
            depth = 0;
            return true;
        }
    }
}
