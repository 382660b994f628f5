/** A quarter of glass houses that keep the summers of the dead; each promise of DOC.md is one public method. */
public final class SummerHouses {
    public static final int NONE = -1;

    private static final int NOT = -2;
    private static final int NO_SAVING = -100000;
    private static final int MOST_HOUSES = 6;
    private static final int MOST_BYTES = 2000;
    private static final int MOST_TOKENS = 400;
    private static final int MOST_SHARED = 30;
    private static final int MOST_PLANNED = 10;
    private static final int MOST_DAYS = 60;
    private static final int MOST_DAYS_AHEAD = 200;
    private static final int MOST_COALS = 9999;
    private static final int MOST_KEPT = 999;
    private static final int MOST_HEAT = 999;
    private static final int MOST_AT_ONCE = 99;
    private static final int MOST_SEEDS = 20;
    private static final int FAR_OFF = 1000000;

    private final byte[] tape;
    private final Reader reader;
    private final Quarter quarter;
    private final State now;
    private final State ahead;
    private final State further;
    private final History history;
    private final Shares today;
    private final Shares tomorrow;
    private final Shares lastDay;
    private final Way way;
    private final Roofs cover;
    private final Pairs pairs;
    private final Told told;
    private final int[] planned;
    private int tapeSize;
    private int faultPlace;

    public SummerHouses() {
        tape = new byte[MOST_BYTES];
        reader = new Reader();
        quarter = new Quarter();
        now = new State();
        now.coals = quarter.coals;
        ahead = new State();
        further = new State();
        history = new History();
        today = new Shares(MOST_SHARED);
        tomorrow = new Shares(MOST_PLANNED);
        lastDay = new Shares(MOST_PLANNED);
        way = new Way();
        cover = new Roofs();
        pairs = new Pairs();
        told = new Told();
        planned = new int[3];
        tapeSize = 0;
        faultPlace = NONE;
    }

    // ---- the tape and its text

    public int feed(int a, int b, int c, int d, int e) {
        if (tapeSize + 20 > MOST_BYTES) {
            return NONE;
        }
        putWord(a);
        putWord(b);
        putWord(c);
        putWord(d);
        putWord(e);
        return tapeSize;
    }

    private void putWord(int word) {
        for (int shift = 24; shift >= 0 && tapeSize < MOST_BYTES; shift -= 8) {
            tape[tapeSize] = (byte) (word >>> shift);
            tapeSize++;
        }
    }

    public int back(int n) {
        if (n < 0 || n > tapeSize) {
            return NONE;
        }
        tapeSize -= n;
        return tapeSize;
    }

    public int read() {
        int fault = reader.readText(tape, tapeSize);
        tapeSize = 0;
        faultPlace = fault == 0 ? NONE : reader.faultPlace;
        if (fault == 0) {
            quarter.copyFrom(reader.draft);
            quarter.begin(now);
            history.clearAll();
            told.size = 0;
        }
        return fault;
    }

    public int place() {
        return faultPlace;
    }

    // ---- what is

    public int house(int house, int what) {
        if (!isHouse(house) || what < 0 || what > 12) {
            return NONE;
        }
        if (what < State.CELLS) {
            return now.get(house, what);
        }
        switch (what) {
            case 7:
                return quarter.cools(now, house);
            case 8:
                return quarter.warms(now, house);
            case 9:
                return quarter.fades(now, house);
            case 10:
                return quarter.mends(now, house);
            case 11:
                return quarter.xOf(house);
            default:
                return quarter.yOf(house);
        }
    }

    private boolean isHouse(int house) {
        return house >= 0 && house < quarter.houses;
    }

    public int count(int what) {
        switch (what) {
            case 0:
                return quarter.houses;
            case 1:
                return now.day;
            case 2:
                return now.coals;
            case 3:
                return now.sumOf(State.KEPT);
            case 4:
                return now.sumOf(State.HEAT);
            case 5:
                return now.sumOf(State.BROKEN);
            case 6:
                return now.bitsOf(State.OPEN, 1, quarter.houses);
            case 7:
                return now.bitsOf(State.KEPT, 0, quarter.houses);
            case 8:
                return tapeSize;
            case 9:
                return history.undoable;
            case 10:
                return told.size;
            case 11:
                return history.heldSlots();
            case 12:
                return quarter.hails(quarter.seed, now.day) ? 1 : 0;
            case 13:
                return lossOfAll();
            case 14:
                return now.burntSoFar;
            case 15:
                return now.sumOf(State.PANES);
            case 16:
                return now.cuttings;
            case 17:
                return now.bitsOf(State.HEAT, 0, quarter.houses);
            case 18:
                return quarter.roof;
            case 19:
                return now.sumOf(State.BURNT);
            default:
                return NONE;
        }
    }

    private int lossOfAll() {
        int sum = 0;
        for (int h = 0; h < quarter.houses; h++) {
            sum += quarter.fades(now, h);
        }
        return sum;
    }

    public int summers(int v) {
        if (v < 1 || v > MOST_KEPT) {
            return NONE;
        }
        int number = 0;
        for (int h = 0; h < quarter.houses; h++) {
            if (now.get(h, State.KEPT) >= v) {
                number++;
            }
        }
        return number;
    }

    // ---- what is done by hand

    public int burn(int house, int n) {
        if (!isHouse(house) || n < 1 || n > MOST_AT_ONCE || n > now.coals) {
            return NONE;
        }
        history.push(now);
        quarter.burnIn(now, house, n);
        return now.get(house, State.HEAT);
    }

    public boolean door(int house, boolean open) {
        int wanted = open ? 1 : 0;
        if (!isHouse(house) || now.get(house, State.OPEN) == wanted) {
            return false;
        }
        history.push(now);
        now.set(house, State.OPEN, wanted);
        return true;
    }

    public int mend(int house) {
        if (!isHouse(house) || now.get(house, State.BROKEN) < 1) {
            return NONE;
        }
        int cost = quarter.mends(now, house);
        if (cost > now.coals) {
            return NONE;
        }
        history.push(now);
        now.coals -= cost;
        now.set(house, State.BROKEN, now.get(house, State.BROKEN) - 1);
        return cost;
    }

    public int cut(int house, int other) {
        if (!isHouse(house) || !isHouse(other) || house == other) {
            return NONE;
        }
        history.push(now);
        int kept = now.get(house, State.KEPT);
        int tenth = kept / 10;
        now.set(house, State.KEPT, kept - tenth);
        now.set(other, State.KEPT, Math.min(MOST_KEPT, now.get(other, State.KEPT) + tenth));
        now.set(other, State.LEAVES, now.get(other, State.LEAVES) + 1);
        now.cuttings++;
        return tenth;
    }

    public int bring(int n) {
        if (n < 1 || n > MOST_AT_ONCE) {
            return NONE;
        }
        history.push(now);
        now.coals = Math.min(MOST_COALS, now.coals + n);
        return now.coals;
    }

    public int days(int n) {
        if (n < 0 || n > MOST_DAYS) {
            return NONE;
        }
        if (n > 0) {
            history.push(now);
        }
        for (int i = 0; i < n; i++) {
            quarter.passDay(now);
            quarter.hailOn(now);
            now.day++;
        }
        return now.day;
    }

    public boolean undo() {
        return history.pop(now);
    }

    public boolean hold(int slot) {
        return history.keep(slot, now);
    }

    public boolean restore(int slot) {
        return history.fetch(slot, now);
    }

    // ---- losses, and how coals are shared out

    public int loss(int house, int n) {
        if (!isHouse(house) || n < 0 || n > MOST_SHARED) {
            return NONE;
        }
        return lossWith(house, n);
    }

    private int lossWith(int house, int coals) {
        ahead.copyFrom(now);
        quarter.burnIn(ahead, house, coals);
        return quarter.fades(ahead, house);
    }

    public int share(int n, int i) {
        if (n < 0 || n > MOST_SHARED || (i != NONE && !isHouse(i))) {
            return NONE;
        }
        today.weigh(quarter, now, n);
        if (i == NONE) {
            return today.leastLoss(n);
        }
        today.shareOut(n);
        return today.givenTo(i);
    }

    public int enough() {
        int sum = 0;
        for (int h = 0; h < quarter.houses; h++) {
            int needed = coalsNeeded(now, h);
            if (needed == NONE) {
                return NOT;
            }
            sum += needed;
        }
        return sum;
    }

    /** The fewest coals by which a house has no loss; NONE if 30 are too few. */
    private int coalsNeeded(State state, int house) {
        further.copyFrom(state);
        for (int n = 0; n <= MOST_SHARED; n++) {
            if (quarter.fades(further, house) == 0) {
                return n;
            }
            quarter.burnIn(further, house, 1);
        }
        return NONE;
    }

    public int plan(int n, int what) {
        if (n < 0 || n > MOST_PLANNED || what < 0 || what > 2) {
            return NONE;
        }
        planned[0] = NONE;
        today.weigh(quarter, now, n);
        for (int a = 0; a <= n; a++) {
            today.shareOut(a);
            today.burnGiven(quarter, now, ahead);
            tomorrow.weigh(quarter, ahead, n - a);
            for (int b = 0; b <= n - a; b++) {
                int kept = keptByPlan(b, n - a - b);
                if (kept > planned[0]) {
                    planned[0] = kept;
                    planned[1] = a;
                    planned[2] = b;
                }
            }
        }
        return planned[what];
    }

    /** What is kept in all, if b coals are burnt tomorrow and c on the last day; a day's loss is all that goes. */
    private int keptByPlan(int b, int c) {
        tomorrow.shareOut(b);
        tomorrow.burnGiven(quarter, ahead, further);
        lastDay.weigh(quarter, further, c);
        return further.sumOf(State.KEPT) - lastDay.leastLoss(c);
    }

    public int worst(int what) {
        if (what != 0 && what != 1) {
            return NONE;
        }
        int house = NOT;
        int most = NOT;
        for (int h = 0; h < quarter.houses; h++) {
            int fades = quarter.fades(now, h);
            if (fades > most) {
                most = fades;
                house = h;
            }
        }
        return what == 0 ? house : most;
    }

    public int lasts() {
        ahead.copyFrom(now);
        for (int d = 0; d < MOST_DAYS; d++) {
            for (int h = 0; h < quarter.houses; h++) {
                int needed = Math.max(0, coalsNeeded(ahead, h));
                if (needed > ahead.coals) {
                    return d;
                }
                quarter.burnIn(ahead, h, needed);
            }
            quarter.passDay(ahead);
            ahead.day++;
        }
        return MOST_DAYS;
    }

    public int gone(int house) {
        return isHouse(house) ? daysTillNothing(house, State.KEPT) : NONE;
    }

    public int cold(int house) {
        return isHouse(house) ? daysTillNothing(house, State.HEAT) : NONE;
    }

    private int daysTillNothing(int house, int cell) {
        ahead.copyFrom(now);
        for (int d = 0; d <= MOST_DAYS_AHEAD; d++) {
            if (ahead.get(house, cell) == 0) {
                return d;
            }
            quarter.passHouse(ahead, house);
            ahead.day++;
        }
        return NOT;
    }

    public int saves(int house) {
        return isHouse(house) ? savedByOne(house) : NO_SAVING;
    }

    private int savedByOne(int house) {
        return quarter.fades(now, house) - lossWith(house, 1);
    }

    public int first() {
        int best = NOT;
        int most = NO_SAVING;
        for (int h = 0; h < quarter.houses; h++) {
            int saved = savedByOne(h);
            if (saved > most) {
                most = saved;
                best = h;
            }
        }
        return best;
    }

    public int draughty(int what) {
        if (what != 0 && what != 1) {
            return NONE;
        }
        int house = NOT;
        int most = NOT;
        for (int h = 0; h < quarter.houses; h++) {
            int cooler = quarter.cools(now, h) * quarter.timesCooled(now, h);
            if (cooler > most) {
                most = cooler;
                house = h;
            }
        }
        return what == 0 ? house : most;
    }

    // ---- days to come, with hail

    public int then(int house, int n, int what) {
        if (!isHouse(house) || n < 0 || n > MOST_DAYS || what < 0 || what > 2) {
            return NONE;
        }
        lookAhead(house, n, quarter.seed);
        switch (what) {
            case 0:
                return ahead.get(house, State.HEAT);
            case 1:
                return ahead.get(house, State.KEPT);
            default:
                return ahead.get(house, State.BROKEN);
        }
    }

    /** Houses don't touch one another as days go by, so one alone is gone on with. */
    private void lookAhead(int house, int n, int seed) {
        ahead.copyFrom(now);
        for (int d = 0; d < n; d++) {
            quarter.passHouse(ahead, house);
            if (quarter.struckHouse(seed, ahead.day) == house) {
                quarter.breakPane(ahead, house);
            }
            ahead.day++;
        }
    }

    public int year(int house, int n, int s) {
        if (!isHouse(house) || n < 0 || n > MOST_DAYS || s < 1 || s > MOST_SEEDS) {
            return NONE;
        }
        int number = 0;
        for (int i = 0; i < s; i++) {
            lookAhead(house, n, quarter.seed + i);
            if (ahead.get(house, State.KEPT) > 0) {
                number++;
            }
        }
        return number;
    }

    // ---- ways, pipes, roofs and pairs

    public int far(int house, int other) {
        return isHouse(house) && isHouse(other) ? quarter.distance(house, other) : NONE;
    }

    public int round(int house) {
        if (!isHouse(house)) {
            return NONE;
        }
        way.search(quarter, house);
        return way.shortest;
    }

    public int next(int house, int i) {
        if (!isHouse(house) || !isHouse(i)) {
            return NONE;
        }
        way.search(quarter, house);
        return way.best[i];
    }

    public int pipes() {
        int sum = 0;
        int joined = 1;
        for (int i = 1; i < quarter.houses; i++) {
            int house = nearestToJoined(joined);
            sum += distanceToJoined(house, joined);
            joined |= 1 << house;
        }
        return sum;
    }

    private int nearestToJoined(int joined) {
        int best = 0;
        int least = FAR_OFF;
        for (int h = 0; h < quarter.houses; h++) {
            int distance = distanceToJoined(h, joined);
            if ((joined >> h & 1) == 0 && distance < least) {
                least = distance;
                best = h;
            }
        }
        return best;
    }

    private int distanceToJoined(int house, int joined) {
        int least = FAR_OFF;
        for (int h = 0; h < quarter.houses; h++) {
            if ((joined >> h & 1) == 1) {
                least = Math.min(least, quarter.distance(house, h));
            }
        }
        return least;
    }

    public int nearest(int house) {
        if (!isHouse(house)) {
            return NONE;
        }
        int best = NOT;
        int least = FAR_OFF;
        for (int h = 0; h < quarter.houses; h++) {
            if (h != house && quarter.distance(house, h) < least) {
                least = quarter.distance(house, h);
                best = h;
            }
        }
        return best;
    }

    public int twins(int what) {
        if (what != 0 && what != 1) {
            return NONE;
        }
        int both = NOT;
        int least = FAR_OFF;
        for (int a = 0; a < quarter.houses; a++) {
            for (int b = a + 1; b < quarter.houses; b++) {
                int differs = now.keptApart(a, b);
                if (differs < least) {
                    least = differs;
                    both = 10 * a + b;
                }
            }
        }
        return what == 0 || both == NOT ? both : least;
    }

    public int roofs(int i) {
        if (i != NONE && !isHouse(i)) {
            return NONE;
        }
        int fewest = cover.search(now, quarter);
        if (fewest == NOT || i == NONE) {
            return fewest;
        }
        return cover.over[i];
    }

    public int paired(int i) {
        if (i != NONE && !isHouse(i)) {
            return NONE;
        }
        pairs.search(now, quarter.houses);
        return i == NONE ? pairs.least : pairs.best[i];
    }

    // ---- whose house it was

    public int tell(int mark, int v, boolean so) {
        if (mark < 0 || mark >= Told.MARKS || v < 0 || v > Told.MOST_VALUE) {
            return NONE;
        }
        return told.add(mark, v, so);
    }

    public int forget() {
        int size = told.size;
        told.size = 0;
        return size;
    }

    public int whose(int k, int what) {
        if (k < 0 || k > told.size || (what != 0 && what != 1)) {
            return NONE;
        }
        int bits = told.fitting(now, quarter.houses, k);
        return what == 0 ? Integer.bitCount(bits) : bits;
    }

    public int look(int k, int v) {
        if (k < 0 || k > told.size || v < 0 || v > Told.MOST_VALUE) {
            return NONE;
        }
        int bits = told.fitting(now, quarter.houses, k);
        return bits == 0 ? NOT : told.bestMark(now, bits, v);
    }

    /** What goes on: of each house seven cells, and what is counted for all. */
    private static final class State {
        // A cell's number is its "what" in house() and its variable's number in a law, too.
        static final int PANES = 0;
        static final int BROKEN = 1;
        static final int HEAT = 2;
        static final int KEPT = 3;
        static final int OPEN = 4;
        static final int LEAVES = 5;
        static final int BURNT = 6;
        static final int CELLS = 7;

        final int[] cells;
        int day;
        int coals;
        int burntSoFar;
        int cuttings;

        State() {
            cells = new int[MOST_HOUSES * CELLS];
        }

        int get(int house, int cell) {
            int at = house * CELLS + cell;
            return at >= 0 && at < cells.length ? cells[at] : 0;
        }

        void set(int house, int cell, int value) {
            int at = house * CELLS + cell;
            if (at >= 0 && at < cells.length) {
                cells[at] = value;
            }
        }

        void copyFrom(State other) {
            System.arraycopy(other.cells, 0, cells, 0, cells.length);
            day = other.day;
            coals = other.coals;
            burntSoFar = other.burntSoFar;
            cuttings = other.cuttings;
        }

        /** Houses that are not there have nothing in any cell. */
        int sumOf(int cell) {
            int sum = 0;
            for (int h = 0; h < MOST_HOUSES; h++) {
                sum += get(h, cell);
            }
            return sum;
        }

        int bitsOf(int cell, int value, int houses) {
            int bits = 0;
            for (int h = 0; h < houses; h++) {
                if (get(h, cell) == value) {
                    bits |= 1 << h;
                }
            }
            return bits;
        }

        int keptApart(int house, int other) {
            return Math.abs(get(house, KEPT) - get(other, KEPT));
        }
    }

    /** The last 40 states ahead of things done, and three that are held. */
    private static final class History {
        static final int MOST = 40;
        static final int SLOTS = 3;

        final State[] past;
        final State[] slots;
        final boolean[] held;
        int newest;
        int undoable;

        History() {
            past = new State[MOST];
            for (int i = 0; i < MOST; i++) {
                past[i] = new State();
            }
            slots = new State[SLOTS];
            for (int i = 0; i < SLOTS; i++) {
                slots[i] = new State();
            }
            held = new boolean[SLOTS];
        }

        void push(State state) {
            newest = newest + 1 < MOST ? newest + 1 : 0;
            past[newest].copyFrom(state);
            undoable = Math.min(MOST, undoable + 1);
        }

        boolean pop(State state) {
            if (undoable < 1) {
                return false;
            }
            state.copyFrom(past[newest]);
            newest = newest > 0 ? newest - 1 : MOST - 1;
            undoable--;
            return true;
        }

        boolean keep(int slot, State state) {
            if (slot < 0 || slot >= SLOTS) {
                return false;
            }
            slots[slot].copyFrom(state);
            held[slot] = true;
            return true;
        }

        boolean fetch(int slot, State state) {
            if (slot < 0 || slot >= SLOTS || !held[slot]) {
                return false;
            }
            state.copyFrom(slots[slot]);
            undoable = 0;
            return true;
        }

        int heldSlots() {
            int number = 0;
            for (int i = 0; i < SLOTS; i++) {
                if (held[i]) {
                    number++;
                }
            }
            return number;
        }

        void clearAll() {
            undoable = 0;
            for (int i = 0; i < SLOTS; i++) {
                held[i] = false;
            }
        }
    }

    /** The laws as steps on a stack; a law is looked at from its start to its first ANSWER. */
    private static final class Laws {
        static final int COOLS = 0;
        static final int WARMS = 1;
        static final int FADES = 2;
        static final int MENDS = 3;
        static final int LAWS = 4;

        // Steps below DAY are a house's cells.
        static final int DAY = 7;
        static final int WHICH = 8;
        static final int NUMBER = 9;
        static final int ADD = 10;
        static final int SUBTRACT = 11;
        static final int MULTIPLY = 12;
        static final int DIVIDE = 13;
        static final int UNLESS_LESS = 14;
        static final int ANSWER = 15;

        // Beside a step for each token there are those of the laws that are not told.
        static final int MOST_STEPS = MOST_TOKENS + 16;
        static final int MOST_STACK = 32;

        final int[] steps;
        final int[] operands;
        final int[] starts;
        final int[] stack;
        int size;

        Laws() {
            steps = new int[MOST_STEPS];
            operands = new int[MOST_STEPS];
            starts = new int[LAWS];
            stack = new int[MOST_STACK];
            setUntold();
        }

        void setUntold() {
            size = 0;
            begin(COOLS);
            append(State.BROKEN, 0);
            append(NUMBER, 1);
            append(ADD, 0);
            append(ANSWER, 0);
            begin(WARMS);
            append(NUMBER, 5);
            append(ANSWER, 0);
            begin(FADES);
            append(NUMBER, 1);
            append(ANSWER, 0);
            begin(MENDS);
            append(NUMBER, 1);
            append(ANSWER, 0);
        }

        void begin(int law) {
            if (law >= 0 && law < LAWS) {
                starts[law] = size;
            }
        }

        void append(int step, int operand) {
            if (size < MOST_STEPS) {
                steps[size] = step;
                operands[size] = operand;
                size++;
            }
        }

        /** The jump at a step goes to the step that comes next. */
        void aimHere(int jump) {
            if (jump >= 0 && jump < size) {
                operands[jump] = size;
            }
        }

        void copyFrom(Laws other) {
            System.arraycopy(other.steps, 0, steps, 0, other.size);
            System.arraycopy(other.operands, 0, operands, 0, other.size);
            System.arraycopy(other.starts, 0, starts, 0, LAWS);
            size = other.size;
        }

        int valueOf(int law, State state, int house) {
            int depth = 0;
            int start = law >= 0 && law < LAWS ? starts[law] : size;
            for (int i = start; i < size; i++) {
                int step = steps[i];
                if (step <= NUMBER) {
                    if (depth >= MOST_STACK) {
                        return 0;
                    }
                    int ofAll = step == DAY ? state.day : step == WHICH ? house : operands[i];
                    stack[depth] = step < DAY ? state.get(house, step) : ofAll;
                    depth++;
                } else if (step == ANSWER) {
                    return depth > 0 ? stack[depth - 1] : 0;
                } else {
                    if (depth < 2) {
                        return 0;
                    }
                    depth -= 2;
                    int left = stack[depth];
                    int right = stack[depth + 1];
                    if (step == UNLESS_LESS) {
                        i = left < right ? i : Math.max(i, operands[i] - 1);
                    } else if (step == DIVIDE && right == 0) {
                        return 0;
                    } else {
                        stack[depth] = joined(step, left, right);
                        depth++;
                    }
                }
            }
            return 0;
        }

        private static int joined(int step, int left, int right) {
            if (step == ADD) {
                return left + right;
            }
            if (step == SUBTRACT) {
                return left - right;
            }
            if (step == MULTIPLY) {
                return left * right;
            }
            return right == 0 ? 0 : left / right;
        }
    }

    /** What a text tells, and what its laws and its hail do to a state. */
    private static final class Quarter {
        static final int TOLD_PANES = 0;
        static final int TOLD_HEAT = 1;
        static final int TOLD_KEPT = 2;
        static final int TOLD_X = 3;
        static final int TOLD_Y = 4;
        static final int TOLD = 5;

        final int[] numbers;
        final Laws laws;
        int houses;
        int coals;
        int roof;
        int hail;
        int seed;

        Quarter() {
            numbers = new int[MOST_HOUSES * TOLD];
            laws = new Laws();
            setUntold();
        }

        void setUntold() {
            laws.setUntold();
            houses = 0;
            coals = 20;
            roof = 20;
            hail = 0;
            seed = 0;
        }

        void copyFrom(Quarter other) {
            System.arraycopy(other.numbers, 0, numbers, 0, MOST_HOUSES * TOLD);
            laws.copyFrom(other.laws);
            houses = other.houses;
            coals = other.coals;
            roof = other.roof;
            hail = other.hail;
            seed = other.seed;
        }

        /** Day 0 of this text. */
        void begin(State state) {
            for (int h = 0; h < MOST_HOUSES; h++) {
                for (int cell = 0; cell < State.CELLS; cell++) {
                    state.set(h, cell, 0);
                }
            }
            for (int h = 0; h < houses; h++) {
                state.set(h, State.PANES, number(h, TOLD_PANES));
                state.set(h, State.HEAT, number(h, TOLD_HEAT));
                state.set(h, State.KEPT, number(h, TOLD_KEPT));
            }
            state.day = 0;
            state.coals = coals;
            state.burntSoFar = 0;
            state.cuttings = 0;
        }

        int number(int house, int which) {
            int at = house * TOLD + which;
            return at >= 0 && at < numbers.length ? numbers[at] : 0;
        }

        void setNumber(int house, int which, int value) {
            int at = house * TOLD + which;
            if (at >= 0 && at < numbers.length) {
                numbers[at] = value;
            }
        }

        int xOf(int house) {
            return number(house, TOLD_X);
        }

        int yOf(int house) {
            return number(house, TOLD_Y);
        }

        int distance(int house, int other) {
            return Math.abs(xOf(house) - xOf(other)) + Math.abs(yOf(house) - yOf(other));
        }

        int cools(State state, int house) {
            return Math.max(0, Math.min(99, laws.valueOf(Laws.COOLS, state, house)));
        }

        int warms(State state, int house) {
            return Math.max(0, Math.min(99, laws.valueOf(Laws.WARMS, state, house)));
        }

        int mends(State state, int house) {
            return Math.max(0, Math.min(99, laws.valueOf(Laws.MENDS, state, house)));
        }

        int fades(State state, int house) {
            int kept = state.get(house, State.KEPT);
            return Math.max(0, Math.min(kept, laws.valueOf(Laws.FADES, state, house)));
        }

        /** One by one, since each coal warms by how the house is then. */
        void burnIn(State state, int house, int coalsBurnt) {
            for (int i = 0; i < coalsBurnt; i++) {
                int heat = state.get(house, State.HEAT) + warms(state, house);
                state.set(house, State.HEAT, Math.min(MOST_HEAT, heat));
                state.set(house, State.BURNT, state.get(house, State.BURNT) + 1);
                state.coals--;
                state.burntSoFar++;
            }
        }

        /** A door that is open counts once more. */
        int timesCooled(State state, int house) {
            return 1 + state.get(house, State.OPEN);
        }

        /** Both laws are asked ahead of any change: a house goes by how it was as the day began. */
        void passHouse(State state, int house) {
            int less = fades(state, house);
            int cooler = cools(state, house) * timesCooled(state, house);
            state.set(house, State.KEPT, state.get(house, State.KEPT) - less);
            state.set(house, State.HEAT, Math.max(0, state.get(house, State.HEAT) - cooler));
            state.set(house, State.BURNT, 0);
        }

        /** A day without its hail; the day's number stays, since the hail goes by it. */
        void passDay(State state) {
            for (int h = 0; h < houses; h++) {
                passHouse(state, h);
            }
        }

        void hailOn(State state) {
            int house = struckHouse(seed, state.day);
            if (house != NONE) {
                breakPane(state, house);
            }
        }

        void breakPane(State state, int house) {
            int broken = state.get(house, State.BROKEN);
            if (broken < state.get(house, State.PANES)) {
                state.set(house, State.BROKEN, broken + 1);
            }
        }

        boolean hails(int bySeed, int day) {
            return lot(100, bySeed, 4 * day) < hail;
        }

        int struckHouse(int bySeed, int day) {
            return houses > 0 && hails(bySeed, day) ? lot(houses, bySeed, 4 * day + 1) : NONE;
        }

        private static int lot(int n, int bySeed, int which) {
            int h = mixed(mixed(bySeed, 177), which);
            return n > 0 ? (h >>> 1) % n : 0;
        }

        private static int mixed(int h, int by) {
            int more = (h ^ by) * 1103515245 + 12345;
            return more ^ more >>> 15;
        }
    }

    /** The tokens of a tape up to its end, to what is no token, or to the one that is too many. */
    private static final class Tokens {
        static final String WORDS = "house cools warms fades mends coals roof hail seed if then else panes broken heat kept open leaves burnt day which ";
        static final String SIGNS = ";=+-*/<()";
        static final int MOST_LETTERS = 8;
        static final int MOST_DIGITS = 4;

        // A word's kind is its number among WORDS, a sign's kind its character, which is above all these.
        static final int HOUSE = 0;
        static final int COOLS = 1;
        static final int MENDS = 4;
        static final int COALS = 5;
        static final int SEED = 8;
        static final int IF = 9;
        static final int THEN = 10;
        static final int ELSE = 11;
        static final int PANES = 12;
        static final int WHICH = 20;
        static final int ALL_WORDS = 21;
        static final int NAME = 21;
        static final int INT = 22;
        static final int END = 23;
        static final int NO_TOKEN = 24;

        final long[] words;
        final int[] kinds;
        final long[] values;
        final int[] places;
        int size;

        Tokens() {
            words = new long[ALL_WORDS];
            int word = 0;
            for (int i = 0; i < WORDS.length() && word < ALL_WORDS; i++) {
                if (WORDS.charAt(i) == ' ') {
                    word++;
                } else {
                    words[word] = words[word] * 27 + (WORDS.charAt(i) - 'a' + 1);
                }
            }
            kinds = new int[MOST_TOKENS + 1];
            values = new long[MOST_TOKENS + 1];
            places = new int[MOST_TOKENS + 1];
        }

        void split(byte[] bytes, int length) {
            size = 0;
            int at = 0;
            for (int i = 0; i <= MOST_TOKENS; i++) {
                at = endOfBlanks(bytes, length, at);
                int end = endOfRun(bytes, length, at);
                putToken(bytes, at, end);
                if (kinds[i] == END || kinds[i] == NO_TOKEN) {
                    return;
                }
                at = end;
            }
        }

        private static int endOfBlanks(byte[] bytes, int length, int from) {
            int at = from;
            while (at < length && isBlank(bytes[at])) {
                at++;
            }
            return at;
        }

        /** The end of the letters, or of the digits, or of the one other byte that stand there. */
        private static int endOfRun(byte[] bytes, int length, int from) {
            if (from >= length) {
                return from;
            }
            int at = from + 1;
            if (isLetter(bytes[from])) {
                while (at < length && isLetter(bytes[at])) {
                    at++;
                }
            } else if (isDigit(bytes[from])) {
                while (at < length && isDigit(bytes[at])) {
                    at++;
                }
            }
            return at;
        }

        private void putToken(byte[] bytes, int from, int to) {
            places[size] = from;
            values[size] = 0;
            if (from == to) {
                kinds[size] = END;
            } else if (isLetter(bytes[from])) {
                values[size] = nameOf(bytes, from, to);
                kinds[size] = to - from > MOST_LETTERS ? NO_TOKEN : kindOfName(values[size]);
            } else if (isDigit(bytes[from])) {
                values[size] = numberOf(bytes, from, to);
                kinds[size] = to - from > MOST_DIGITS ? NO_TOKEN : INT;
            } else {
                kinds[size] = SIGNS.indexOf((char) (bytes[from] & 255)) >= 0 ? bytes[from] : NO_TOKEN;
            }
            size++;
        }

        private static long nameOf(byte[] bytes, int from, int to) {
            long name = 0;
            for (int i = from; i < to; i++) {
                name = name * 27 + (bytes[i] - 'a' + 1);
            }
            return name;
        }

        private static long numberOf(byte[] bytes, int from, int to) {
            long number = 0;
            for (int i = from; i < to; i++) {
                number = number * 10 + (bytes[i] - '0');
            }
            return number;
        }

        private int kindOfName(long name) {
            for (int i = 0; i < ALL_WORDS; i++) {
                if (words[i] == name) {
                    return i;
                }
            }
            return NAME;
        }

        private static boolean isBlank(byte b) {
            return b == 9 || b == 10 || b == 13 || b == 32;
        }

        private static boolean isLetter(byte b) {
            return b >= 'a' && b <= 'z';
        }

        private static boolean isDigit(byte b) {
            return b >= '0' && b <= '9';
        }
    }

    /** Reads a text into a draft, which is good if there was no fault. */
    private static final class Reader {
        static final int SYNTAX = 1;
        static final int ROOM = 2;
        static final int TWICE = 3;
        static final int WRONG = 5;
        static final int MOST_IFS = 4;
        static final int MOST_NESTED = 6;

        // Of a house: panes, heat, kept, x, y; then of coals, roof, hail, seed.
        private static final int[] LEAST = {1, 0, 0, 0, 0, 0, 1, 0, 0};
        private static final int[] MOST = {20, 99, 999, 99, 99, 999, 99, 100, 9999};

        final Tokens tokens;
        final Quarter draft;
        final long[] names;
        int at;
        int fault;
        int faultPlace;

        Reader() {
            tokens = new Tokens();
            draft = new Quarter();
            names = new long[MOST_HOUSES];
        }

        int readText(byte[] tape, int length) {
            tokens.split(tape, length);
            draft.setUntold();
            at = 0;
            fault = 0;
            faultPlace = NONE;
            boolean goesOn = true;
            for (int i = 0; i <= MOST_TOKENS && goesOn; i++) {
                goesOn = tokens.kinds[at] != Tokens.END && tellOne();
            }
            return fault;
        }

        private boolean tellOne() {
            int kind = tokens.kinds[at];
            if (kind == Tokens.HOUSE) {
                return tellHouse();
            }
            if (kind >= Tokens.COOLS && kind <= Tokens.MENDS) {
                return take(kind) && tellLaw(kind - Tokens.COOLS);
            }
            if (kind >= Tokens.COALS && kind <= Tokens.SEED) {
                return take(kind) && tellNumber(kind);
            }
            return refuse(SYNTAX);
        }

        private boolean tellHouse() {
            int house = draft.houses;
            if (house >= MOST_HOUSES) {
                return refuse(ROOM);
            }
            if (!take(Tokens.HOUSE)) {
                return false;
            }
            names[house] = tokens.values[at];
            if (tokens.kinds[at] == Tokens.NAME && isToldAlready(tokens.values[at])) {
                note(TWICE);
            }
            if (!take(Tokens.NAME)) {
                return false;
            }
            for (int i = 0; i < Quarter.TOLD; i++) {
                draft.setNumber(house, i, numberHere(i));
                if (!take(Tokens.INT)) {
                    return false;
                }
            }
            draft.houses++;
            return take(';');
        }

        private boolean isToldAlready(long name) {
            for (int h = 0; h < draft.houses && h < MOST_HOUSES; h++) {
                if (names[h] == name) {
                    return true;
                }
            }
            return false;
        }

        private boolean tellNumber(int kind) {
            int value = numberHere(Quarter.TOLD + kind - Tokens.COALS);
            if (!take(Tokens.INT)) {
                return false;
            }
            switch (kind - Tokens.COALS) {
                case 0:
                    draft.coals = value;
                    break;
                case 1:
                    draft.roof = value;
                    break;
                case 2:
                    draft.hail = value;
                    break;
                default:
                    draft.seed = value;
                    break;
            }
            return take(';');
        }

        /** The number of the token that is next, noted as WRONG if it is one and out of its bounds. */
        private int numberHere(int which) {
            int value = (int) tokens.values[at];
            boolean within = which >= 0 && which < MOST.length && value >= LEAST[which] && value <= MOST[which];
            if (tokens.kinds[at] == Tokens.INT && !within) {
                note(WRONG);
            }
            return value;
        }

        private boolean tellLaw(int law) {
            if (!take('=')) {
                return false;
            }
            Laws laws = draft.laws;
            laws.begin(law);
            for (int ifs = 0; ifs <= MOST_IFS && tokens.kinds[at] == Tokens.IF; ifs++) {
                if (ifs == MOST_IFS) {
                    return refuse(ROOM);
                }
                if (!take(Tokens.IF) || !sum(0) || !take('<') || !sum(0) || !take(Tokens.THEN)) {
                    return false;
                }
                int jump = laws.size;
                laws.append(Laws.UNLESS_LESS, 0);
                if (!sum(0) || !take(Tokens.ELSE)) {
                    return false;
                }
                laws.append(Laws.ANSWER, 0);
                laws.aimHere(jump);
            }
            if (!sum(0)) {
                return false;
            }
            laws.append(Laws.ANSWER, 0);
            return take(';');
        }

        private boolean sum(int nested) {
            if (!product(nested)) {
                return false;
            }
            for (int i = 0; i <= MOST_TOKENS; i++) {
                int kind = tokens.kinds[at];
                if (kind != '+' && kind != '-') {
                    return true;
                }
                if (!take(kind) || !product(nested)) {
                    return false;
                }
                draft.laws.append(kind == '+' ? Laws.ADD : Laws.SUBTRACT, 0);
            }
            return false;
        }

        private boolean product(int nested) {
            if (!unit(nested)) {
                return false;
            }
            for (int i = 0; i <= MOST_TOKENS; i++) {
                int kind = tokens.kinds[at];
                if (kind != '*' && kind != '/') {
                    return true;
                }
                if (!take(kind) || !unit(nested)) {
                    return false;
                }
                draft.laws.append(kind == '*' ? Laws.MULTIPLY : Laws.DIVIDE, 0);
            }
            return false;
        }

        private boolean unit(int nested) {
            int kind = tokens.kinds[at];
            if (kind == '(') {
                if (nested >= MOST_NESTED) {
                    return refuse(ROOM);
                }
                return take('(') && sum(nested + 1) && take(')');
            }
            if (kind == Tokens.INT) {
                draft.laws.append(Laws.NUMBER, (int) tokens.values[at]);
            } else if (kind >= Tokens.PANES && kind <= Tokens.WHICH) {
                draft.laws.append(kind - Tokens.PANES, 0);
            } else {
                return refuse(SYNTAX);
            }
            return take(kind);
        }

        /** The first fault of these stays, if no fault of grammar or room comes at all. */
        private void note(int number) {
            if (fault == 0) {
                fault = number;
                faultPlace = tokens.places[at];
            }
        }

        private boolean refuse(int number) {
            fault = number;
            faultPlace = tokens.places[at];
            return false;
        }

        /** A token too many is a fault only where its kind may stand. */
        private boolean take(int kind) {
            if (tokens.kinds[at] == kind && at < MOST_TOKENS) {
                at++;
                return true;
            }
            fault = tokens.kinds[at] == kind ? ROOM : SYNTAX;
            faultPlace = tokens.places[at];
            return false;
        }
    }

    /** How coals are best shared out among the houses of one state. */
    private static final class Shares {
        final int most;
        final State trial;
        final int[][] losses;
        final int[][] least;
        final int[] given;
        int houses;

        Shares(int mostCoals) {
            most = mostCoals;
            trial = new State();
            losses = new int[MOST_HOUSES][mostCoals + 1];
            least = new int[MOST_HOUSES + 1][mostCoals + 1];
            given = new int[MOST_HOUSES];
        }

        /** Finds the least loss of the houses from each one on, with up to each number of coals, n at most. */
        void weigh(Quarter quarter, State state, int n) {
            int coals = Math.min(n, most);
            houses = quarter.houses;
            trial.copyFrom(state);
            for (int h = 0; h < houses; h++) {
                for (int k = 0; k <= coals; k++) {
                    if (k > 0) {
                        quarter.burnIn(trial, h, 1);
                    }
                    losses[h][k] = quarter.fades(trial, h);
                }
            }
            for (int k = 0; k <= coals; k++) {
                least[houses][k] = 0;
            }
            for (int h = houses - 1; h >= 0; h--) {
                for (int k = 0; k <= coals; k++) {
                    int own = fewestBest(h, k);
                    least[h][k] = losses[h][own] + least[h + 1][k - own];
                }
            }
        }

        /** How many of k coals a house gets, the others going best to those behind it. */
        private int fewestBest(int house, int k) {
            int best = 0;
            for (int own = 1; own <= k; own++) {
                int sum = losses[house][own] + least[house + 1][k - own];
                if (sum < losses[house][best] + least[house + 1][k - best]) {
                    best = own;
                }
            }
            return best;
        }

        int leastLoss(int n) {
            return n >= 0 && n <= most ? least[0][n] : 0;
        }

        void shareOut(int n) {
            int left = Math.min(n, most);
            for (int h = 0; h < houses; h++) {
                given[h] = fewestBest(h, left);
                left -= given[h];
            }
        }

        int givenTo(int house) {
            return house >= 0 && house < MOST_HOUSES ? given[house] : 0;
        }

        /** The state behind a day on which the coals are burnt as they were shared out. */
        void burnGiven(Quarter quarter, State from, State to) {
            to.copyFrom(from);
            for (int h = 0; h < houses; h++) {
                quarter.burnIn(to, h, given[h]);
            }
            quarter.passDay(to);
            to.day++;
        }
    }

    /** The shortest way through all houses; the ways are tried by the lowest houses first. */
    private static final class Way {
        final int[] going;
        final int[] best;
        int shortest;

        Way() {
            going = new int[MOST_HOUSES];
            best = new int[MOST_HOUSES];
        }

        void search(Quarter quarter, int from) {
            shortest = FAR_OFF;
            going[0] = from;
            goOn(quarter, 1, 1 << from, 0);
        }

        private void goOn(Quarter quarter, int step, int seen, int length) {
            if (step >= quarter.houses || step >= MOST_HOUSES) {
                if (length < shortest) {
                    shortest = length;
                    System.arraycopy(going, 0, best, 0, MOST_HOUSES);
                }
                return;
            }
            for (int h = 0; h < quarter.houses; h++) {
                if ((seen >> h & 1) == 0) {
                    going[step] = h;
                    goOn(quarter, step + 1, seen | 1 << h, length + quarter.distance(going[step - 1], h));
                }
            }
        }
    }

    /** Houses under the fewest roofs; the lowest roofs are tried first. */
    private static final class Roofs {
        final int[] over;
        final int[] panes;

        Roofs() {
            over = new int[MOST_HOUSES];
            panes = new int[MOST_HOUSES];
        }

        int search(State state, Quarter quarter) {
            for (int h = 0; h < quarter.houses; h++) {
                if (state.get(h, State.PANES) > quarter.roof) {
                    return NOT;
                }
            }
            for (int roofs = 0; roofs <= quarter.houses; roofs++) {
                for (int r = 0; r < MOST_HOUSES; r++) {
                    panes[r] = 0;
                }
                if (coverFrom(state, quarter, 0, 0, roofs)) {
                    return roofs;
                }
            }
            return NOT;
        }

        /** Whether this house and those behind it fit under so many roofs, some of which are used. */
        private boolean coverFrom(State state, Quarter quarter, int house, int used, int roofs) {
            if (house >= quarter.houses || house >= MOST_HOUSES) {
                return true;
            }
            int own = state.get(house, State.PANES);
            for (int r = 0; r <= used && r < roofs && r < MOST_HOUSES; r++) {
                if (panes[r] + own <= quarter.roof) {
                    over[house] = r;
                    panes[r] += own;
                    if (coverFrom(state, quarter, house + 1, Math.max(used, r + 1), roofs)) {
                        return true;
                    }
                    panes[r] -= own;
                }
            }
            return false;
        }
    }

    /** The pairs that differ least; the lowest partners are tried first, and none last. */
    private static final class Pairs {
        final int[] with;
        final int[] best;
        int least;

        Pairs() {
            with = new int[MOST_HOUSES];
            best = new int[MOST_HOUSES];
        }

        void search(State state, int houses) {
            least = FAR_OFF;
            pairFrom(state, houses, 0, 0, 0);
        }

        private void pairFrom(State state, int houses, int house, int paired, int sum) {
            if (house >= houses || house >= MOST_HOUSES) {
                if (sum < least) {
                    least = sum;
                    System.arraycopy(with, 0, best, 0, MOST_HOUSES);
                }
                return;
            }
            if ((paired >> house & 1) == 1) {
                pairFrom(state, houses, house + 1, paired, sum);
                return;
            }
            for (int other = house + 1; other < houses && other < MOST_HOUSES; other++) {
                if ((paired >> other & 1) == 0) {
                    with[house] = other;
                    with[other] = house;
                    int both = paired | 1 << house | 1 << other;
                    pairFrom(state, houses, house + 1, both, sum + state.keptApart(house, other));
                }
            }
            if (mayStayAlone(houses, house, paired)) {
                with[house] = NOT;
                pairFrom(state, houses, house + 1, paired, sum);
            }
        }

        /** One house stays alone where their number is odd: all ahead of it that are not paired did. */
        private static boolean mayStayAlone(int houses, int house, int paired) {
            int ahead = (1 << house) - 1;
            return houses % 2 == 1 && (paired & ahead) == ahead;
        }
    }

    /** What was told of a house unknown. */
    private static final class Told {
        static final int MOST = 20;
        static final int MARKS = 4;
        static final int MOST_VALUE = 999;
        private static final int[] CELL_OF_MARK = {State.PANES, State.HEAT, State.KEPT, State.BROKEN};

        final int[] marks;
        final int[] values;
        final boolean[] so;
        int size;

        Told() {
            marks = new int[MOST];
            values = new int[MOST];
            so = new boolean[MOST];
        }

        int add(int mark, int value, boolean isSo) {
            if (size >= MOST) {
                return NONE;
            }
            marks[size] = mark;
            values[size] = value;
            so[size] = isSo;
            size++;
            return size - 1;
        }

        private static boolean isAtLeast(State state, int house, int mark, int value) {
            return mark >= 0 && mark < MARKS && state.get(house, CELL_OF_MARK[mark]) >= value;
        }

        /** The houses (bits) of which the first k are so, as the state is now. */
        int fitting(State state, int houses, int k) {
            int bits = 0;
            for (int h = 0; h < houses; h++) {
                boolean fits = true;
                for (int i = 0; i < k && i < MOST; i++) {
                    fits = fits && isAtLeast(state, h, marks[i], values[i]) == so[i];
                }
                if (fits) {
                    bits |= 1 << h;
                }
            }
            return bits;
        }

        int bestMark(State state, int bits, int value) {
            int best = 0;
            int fewest = FAR_OFF;
            for (int mark = 0; mark < MARKS; mark++) {
                int left = leftAtWorst(state, bits, mark, value);
                if (left < fewest) {
                    fewest = left;
                    best = mark;
                }
            }
            return best;
        }

        private static int leftAtWorst(State state, int bits, int mark, int value) {
            int yes = 0;
            for (int h = 0; h < MOST_HOUSES; h++) {
                if ((bits >> h & 1) == 1 && isAtLeast(state, h, mark, value)) {
                    yes++;
                }
            }
            return Math.max(yes, Integer.bitCount(bits) - yes);
        }
    }
}
