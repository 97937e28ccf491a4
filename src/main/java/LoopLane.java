import java.util.Arrays;

/**
 * A lane for loops: the acts of a body are laid into a beat, so that turns overlap, and the laid
 * loop is run beside the plain one. All rows are made once in the constructor; no call makes more.
 */
public final class LoopLane {
    public static final int NONE = -1;
    public static final int MISSING = -2;
    public static final int BEYOND = -3;
    public static final int BELOW = -4;
    public static final int KIND = -5;
    public static final int COPY = -6;
    public static final int NOTHING = -7;
    public static final int ZERO = -8;
    public static final int NO = -9;
    public static final int FULL = -10;
    public static final int SPENT = -11;

    private static final int PUT = 0;
    private static final int SUM = 1;
    private static final int TIMES = 2;
    private static final int OVER = 3;
    private static final int FETCH = 4;
    private static final int STORE = 5;
    private static final int PICK = 6;

    private static final int MOST_ACTS = 16;
    private static final int OPERANDS = 3;
    private static final int MOST_BACK = 4;
    private static final int MOST_LAG = 12;
    private static final int PATTERN_BITS = 8;
    private static final int MOST_PATTERN = 255;
    private static final int KINDS = 6;
    private static final int MOST_UNITS = 4;
    private static final int MOST_TOLD = 40;
    private static final int MOST_EDGE_TICKS = 50;
    private static final int SLOTS = 8;
    private static final int MOST_PLACES = 40;
    private static final int MOST_BEAT = 60;
    private static final int MOST_TRIALS = 3000;
    private static final int MOST_FORGED = 3000;
    private static final int MOST_TURNS = 200;

    /** 16 STORES of one slot have 648 edges, the most of any body; the told ones come on top. */
    private static final int MOST_EDGES = 720;
    /** Each step of the search is a trial or a way back from one, so 6002 are the most. */
    private static final int MOST_STEPS = 10000;
    /** Stands in a matrix where no edge leads from one act to another, far below any wait. */
    private static final int APART = -1000000;

    /** How a search at one beat ended, in the numbers that prove() answers. */
    private static final int FOUND = 0;
    private static final int BY_UNITS = 1;
    private static final int BY_RING = 2;
    private static final int THROUGH = 3;
    private static final int OUT_OF_TRIALS = 4;

    private final Body body;
    private final Weave weave;
    private final Rows rows;
    private final Waits waits;
    private final Seeker seeker;
    private final Laying laying;
    private final Judge judge;
    private final Runner runner;
    private final Outcome told;
    /** The latest refusal that again() has not answered yet, or 0. */
    private int kept;
    /** How many calls each refusal answered, by its number without the sign. */
    private final int[] refused;

    public LoopLane() {
        body = new Body();
        weave = new Weave();
        rows = new Rows();
        waits = new Waits();
        seeker = new Seeker(body, waits);
        laying = new Laying();
        judge = new Judge();
        runner = new Runner(body, rows, laying);
        told = new Outcome();
        kept = 0;
        refused = new int[1 - SPENT];
    }

    // ---- the body

    public int put(long v) {
        int a = body.open(PUT);
        if (a == NONE) {
            return refuse(FULL);
        }
        body.number[a] = v;
        bodyChanged();
        return a;
    }

    public int reckon(int sort, int x, int dx, int y, int dy) {
        if (sort < SUM || sort > OVER || !isBack(dx) || !isBack(dy)) {
            return refuse(NO);
        }
        if (!body.mayTake(x, dx) || !body.mayTake(y, dy)) {
            return refuse(BEYOND);
        }
        int a = body.open(sort);
        if (a == NONE) {
            return refuse(FULL);
        }
        body.take(a, 0, x, dx);
        body.take(a, 1, y, dy);
        bodyChanged();
        return a;
    }

    public int fetch(int s, int x, int dx) {
        if (!isBack(dx)) {
            return refuse(NO);
        }
        if (!isSlot(s) || !body.mayTake(x, dx)) {
            return refuse(BEYOND);
        }
        int a = body.open(FETCH);
        if (a == NONE) {
            return refuse(FULL);
        }
        body.slot[a] = s;
        body.take(a, 0, x, dx);
        bodyChanged();
        return a;
    }

    public int store(int s, int x, int dx, int y, int dy) {
        if (!isBack(dx) || !isBack(dy)) {
            return refuse(NO);
        }
        if (!isSlot(s) || !body.mayTake(x, dx) || !body.mayTake(y, dy)) {
            return refuse(BEYOND);
        }
        int a = body.open(STORE);
        if (a == NONE) {
            return refuse(FULL);
        }
        body.slot[a] = s;
        body.take(a, 0, x, dx);
        body.take(a, 1, y, dy);
        bodyChanged();
        return a;
    }

    public int pick(int x, int y, int z, int dz) {
        if (!isBack(dz)) {
            return refuse(NO);
        }
        if (!body.mayTake(x, 0) || !body.mayTake(y, 0) || !body.mayTake(z, dz)) {
            return refuse(BEYOND);
        }
        int a = body.open(PICK);
        if (a == NONE) {
            return refuse(FULL);
        }
        body.take(a, 0, x, 0);
        body.take(a, 1, y, 0);
        body.take(a, 2, z, dz);
        bodyChanged();
        return a;
    }

    public int works(int a, int lag, int unit, int pattern) {
        if (!body.has(a) || !isKind(unit)) {
            return refuse(BEYOND);
        }
        if (lag < 1 || lag > MOST_LAG || pattern < 1 || pattern > MOST_PATTERN) {
            return refuse(NO);
        }
        body.lag[a] = lag;
        body.kind[a] = unit;
        body.pattern[a] = pattern;
        bodyChanged();
        return 1;
    }

    public int first(int a, long v) {
        if (!body.has(a)) {
            return refuse(BEYOND);
        }
        body.first[a] = v;
        return 1;
    }

    public int unit(int kind, int n) {
        if (!isKind(kind)) {
            return refuse(BEYOND);
        }
        if (n < 0) {
            return refuse(BELOW);
        }
        if (n > MOST_UNITS) {
            return refuse(NO);
        }
        int before = body.units[kind];
        body.units[kind] = n;
        bodyChanged();
        return before;
    }

    public int edge(int a, int b, int ticks, int turns) {
        if (!body.has(a) || !body.has(b)) {
            return refuse(BEYOND);
        }
        if (ticks < -MOST_EDGE_TICKS || ticks > MOST_EDGE_TICKS || !isBack(turns)) {
            return refuse(NO);
        }
        if (!body.told.join(a, b, ticks, turns)) {
            return refuse(FULL);
        }
        bodyChanged();
        return body.told.size;
    }

    public int undo() {
        int latest = body.acts - 1;
        if (latest < 0) {
            return refuse(MISSING);
        }
        if (body.isTakenByAnother(latest)) {
            return refuse(NO);
        }
        body.acts = latest;
        body.told.dropAct(latest);
        bodyChanged();
        return latest;
    }

    public int act(int a, int what) {
        if (!body.has(a)) {
            return refuse(BEYOND);
        }
        switch (what) {
            case 0:
                return body.sort[a];
            case 1:
                return body.lag[a];
            case 2:
                return body.kind[a];
            case 3:
                return body.pattern[a];
            case 4:
                return body.slot[a];
            default:
                return what < 5 || what > 10 ? refuse(NO) : operandPart(a, what - 5);
        }
    }

    public long number(int a) {
        if (!body.has(a)) {
            refuse(BEYOND);
            return 0L;
        }
        if (body.sort[a] != PUT) {
            refuse(KIND);
            return 0L;
        }
        return body.number[a];
    }

    public int count(int what) {
        switch (what) {
            case 0:
                return body.acts;
            case 1:
                return body.told.size;
            case 2:
                weave.renew(body);
                return weave.own;
            case 3:
                return body.stores();
            case 4:
                return body.unitsInAll();
            default:
                return refuse(NO);
        }
    }

    public int whole() {
        return body.isWhole() ? 1 : 0;
    }

    // ---- rows

    public int row(int s, int n, boolean wide) {
        if (!isSlot(s)) {
            return refuse(BEYOND);
        }
        if (n < 0) {
            return refuse(BELOW);
        }
        if (n == 0 || n > MOST_PLACES) {
            return refuse(NO);
        }
        rows.make(s, n, wide);
        return 1;
    }

    public int empty(int s) {
        if (!isSlot(s)) {
            return refuse(BEYOND);
        }
        return rows.drop(s) ? 1 : 0;
    }

    public int set(int s, int i, long v) {
        int refusal = rows.refusalAt(s, i);
        if (refusal != 0) {
            return refuse(refusal);
        }
        rows.longs[Rows.placeOf(s, i)] = v;
        return 1;
    }

    public long get(int s, int i) {
        int refusal = rows.refusalAt(s, i);
        if (refusal != 0) {
            refuse(refusal);
            return 0L;
        }
        return rows.longs[Rows.placeOf(s, i)];
    }

    public int copy(int s, int i, int t, int j, int n) {
        if (!isSlot(s) || !isSlot(t)) {
            return refuse(BEYOND);
        }
        if (rows.size[s] == 0 || rows.size[t] == 0) {
            return refuse(MISSING);
        }
        if (!rows.wide[s] || !rows.wide[t]) {
            return refuse(KIND);
        }
        if (n < 0) {
            return refuse(BELOW);
        }
        if (!rows.hasRun(s, i, n) || !rows.hasRun(t, j, n)) {
            return refuse(COPY);
        }
        System.arraycopy(rows.longs, Rows.placeOf(s, i), rows.longs, Rows.placeOf(t, j), n);
        return n;
    }

    // ---- beats

    public int lowest() {
        int low = lowestBeat();
        return low < 0 ? refuse(low) : low;
    }

    public int lay() {
        seeker.trials = 0;
        int low = lowestBeat();
        if (low < 0) {
            return refuse(low);
        }
        for (int beat = low; beat <= MOST_BEAT; beat++) {
            int found = seekAt(beat);
            if (found == OUT_OF_TRIALS) {
                return refuse(SPENT);
            }
            if (found == FOUND) {
                waits.join(body.acts);
                laying.settle(body, seeker, waits);
                return beat;
            }
        }
        return refuse(NO);
    }

    public int prove(int b) {
        seeker.trials = 0;
        if (!body.isReady()) {
            return refuse(MISSING);
        }
        if (b < 0) {
            return refuse(BELOW);
        }
        if (b == 0 || b > MOST_BEAT) {
            return refuse(NO);
        }
        if (body.beatByUnits() > b) {
            return BY_UNITS;
        }
        weave.renew(body);
        if (hasRingAt(b)) {
            return BY_RING;
        }
        return seekAt(b);
    }

    public int trials() {
        return seeker.trials;
    }

    public int laying(int what) {
        if (!laying.stands) {
            return refuse(MISSING);
        }
        switch (what) {
            case 0:
                return laying.beat;
            case 1:
                return laying.stages;
            case 2:
                return laying.lastEnd(body);
            default:
                return refuse(NO);
        }
    }

    public int tick(int a, int what) {
        if (!laying.stands) {
            return refuse(MISSING);
        }
        if (!body.has(a)) {
            return refuse(BEYOND);
        }
        switch (what) {
            case 0:
                return laying.tick[a];
            case 1:
                return laying.stage[a];
            case 2:
                return laying.begin[a];
            case 3:
                return laying.early[a];
            case 4:
                return laying.late[a];
            default:
                return refuse(NO);
        }
    }

    public int filled(int kind, int tick) {
        if (!laying.stands) {
            return refuse(MISSING);
        }
        if (!isKind(kind) || tick < 0 || tick >= laying.beat) {
            return refuse(BEYOND);
        }
        return laying.filling.at(kind, tick);
    }

    public int names(int a) {
        if (!laying.stands) {
            return refuse(MISSING);
        }
        if (!body.has(a)) {
            return refuse(BEYOND);
        }
        return laying.places[a];
    }

    public int fewest(int what) {
        if (!laying.stands) {
            return refuse(MISSING);
        }
        switch (what) {
            case 0:
                return laying.placesInAll(body.acts);
            case 1:
                return laying.mostPlaces(body.acts) * body.acts;
            default:
                return refuse(NO);
        }
    }

    public int forge(int a, int t) {
        if (!laying.stands) {
            return refuse(MISSING);
        }
        if (!body.has(a)) {
            return refuse(BEYOND);
        }
        if (t < 0) {
            return refuse(BELOW);
        }
        if (t > MOST_FORGED) {
            return refuse(NO);
        }
        int before = laying.forged[a];
        laying.forged[a] = t;
        return before;
    }

    public int check() {
        if (!laying.stands) {
            return refuse(MISSING);
        }
        weave.renew(body);
        return judge.look(body, weave.all, laying);
    }

    public int wrong(int what) {
        if (what < 0 || what >= Judge.FINDINGS) {
            return refuse(NO);
        }
        return judge.findings[what];
    }

    // ---- runs

    public int run(int n, boolean laid) {
        int refusal = refusalOfRun(n, laid);
        if (refusal != 0) {
            return refuse(refusal);
        }
        runner.go(n, laid, told);
        return told.whole;
    }

    public int compare(int n) {
        int refusal = refusalOfRun(n, true);
        if (refusal != 0) {
            return refuse(refusal);
        }
        return runner.bothAgree(n) ? 1 : 0;
    }

    public int told(int what) {
        switch (what) {
            case 0:
                return told.refusal;
            case 1:
                return told.act;
            case 2:
                return told.turn;
            case 3:
                return told.begun;
            case 4:
                return told.ticks;
            case 5:
                return told.byTicks ? 1 : 0;
            default:
                return refuse(NO);
        }
    }

    public long end(int a) {
        if (!body.has(a)) {
            refuse(BEYOND);
            return 0L;
        }
        return told.whole > 0 ? told.ends[a] : body.first[a];
    }

    // ---- refusals

    /** NOTHING is no refusal: it tells that there is none, so it is neither counted nor kept. */
    public int again() {
        if (kept == 0) {
            return NOTHING;
        }
        int refusal = kept;
        kept = 0;
        return refusal;
    }

    public int status(int by) {
        if (by < SPENT || by > MISSING) {
            return refuse(NO);
        }
        return refused[-by];
    }

    // ---- what the face is made of

    private int refuse(int refusal) {
        if (refusal >= SPENT && refusal <= MISSING) {
            kept = refusal;
            refused[-refusal]++;
        }
        return refusal;
    }

    /** What was laid and told speaks of a body that is no more. */
    private void bodyChanged() {
        weave.stale = true;
        laying.stands = false;
        told.clear();
    }

    private static boolean isBack(int turns) {
        return turns >= 0 && turns <= MOST_BACK;
    }

    private static boolean isSlot(int s) {
        return s >= 0 && s < SLOTS;
    }

    private static boolean isKind(int kind) {
        return kind >= 0 && kind < KINDS;
    }

    /** Part 0, 2, 4 is the act that x, y, z takes; part 1, 3, 5 of how many turns before. */
    private int operandPart(int a, int part) {
        int at = a * OPERANDS + part / 2;
        return part % 2 == 0 ? body.operand[at] : body.back[at];
    }

    /** The lowest beat, or the refusal that stands in its place. */
    private int lowestBeat() {
        if (!body.isReady()) {
            return MISSING;
        }
        int low = body.beatByUnits();
        if (low > MOST_BEAT) {
            return NO;
        }
        weave.renew(body);
        if (hasRingAt(MOST_BEAT)) {
            return NO;
        }
        // A ring that a beat admits every greater beat admits, so halving finds the least one.
        int high = MOST_BEAT;
        for (int step = 0; step < MOST_BEAT && low < high; step++) {
            int middle = (low + high) / 2;
            if (hasRingAt(middle)) {
                low = middle + 1;
            } else {
                high = middle;
            }
        }
        return low;
    }

    private boolean hasRingAt(int beat) {
        waits.load(weave.all, beat);
        return !waits.join(body.acts);
    }

    private int seekAt(int beat) {
        waits.load(weave.all, beat);
        return seeker.seek(beat);
    }

    private int refusalOfRun(int n, boolean laid) {
        if (!body.isReady() || (laid && !laying.stands)) {
            return MISSING;
        }
        if (n < 0) {
            return BELOW;
        }
        return n > MOST_TURNS ? NO : 0;
    }

    /** The acts, the units they fill, and the edges that were told. */
    static final class Body {
        int acts = 0;
        final int[] sort = new int[MOST_ACTS];
        final int[] lag = new int[MOST_ACTS];
        final int[] kind = new int[MOST_ACTS];
        final int[] pattern = new int[MOST_ACTS];
        final int[] slot = new int[MOST_ACTS];
        final int[] operand = new int[MOST_ACTS * OPERANDS];
        final int[] back = new int[MOST_ACTS * OPERANDS];
        final long[] number = new long[MOST_ACTS];
        final long[] first = new long[MOST_ACTS];
        final int[] units = new int[KINDS];
        final EdgeList told = new EdgeList(MOST_TOLD);

        Body() {
            Arrays.fill(units, 1);
        }

        boolean has(int a) {
            return a >= 0 && a < acts;
        }

        /** Whether the act that comes next may take the end of x, of so many turns before. */
        boolean mayTake(int x, int turns) {
            return x >= 0 && x < MOST_ACTS && (turns > 0 || x < acts);
        }

        /** The number of a new act, which has no operands yet; NONE if there is no room for it. */
        int open(int newSort) {
            int a = acts;
            if (a >= MOST_ACTS) {
                return NONE;
            }
            acts = a + 1;
            sort[a] = newSort;
            lag[a] = 1;
            kind[a] = 0;
            pattern[a] = 1;
            slot[a] = NONE;
            number[a] = 0L;
            first[a] = 0L;
            for (int i = 0; i < OPERANDS; i++) {
                take(a, i, NONE, NONE);
            }
            return a;
        }

        void take(int a, int which, int x, int turns) {
            operand[a * OPERANDS + which] = x;
            back[a * OPERANDS + which] = turns;
        }

        boolean isTakenByAnother(int a) {
            int own = a * OPERANDS;
            for (int at = 0; at < acts * OPERANDS; at++) {
                if (operand[at] == a && (at < own || at >= own + OPERANDS)) {
                    return true;
                }
            }
            return false;
        }

        boolean isWhole() {
            for (int at = 0; at < acts * OPERANDS; at++) {
                if (operand[at] >= acts) {
                    return false;
                }
            }
            return true;
        }

        /** Whether there is something to lay out and to run. */
        boolean isReady() {
            return acts > 0 && isWhole();
        }

        int stores() {
            int found = 0;
            for (int a = 0; a < acts; a++) {
                if (sort[a] == STORE) {
                    found++;
                }
            }
            return found;
        }

        int unitsInAll() {
            int sum = 0;
            for (int k = 0; k < KINDS; k++) {
                sum += units[k];
            }
            return sum;
        }

        /** The least beat that has room for what the acts fill; above MOST_BEAT if none has. */
        int beatByUnits() {
            int least = 1;
            for (int k = 0; k < KINDS; k++) {
                int bits = bitsOf(k);
                if (bits > 0) {
                    int n = units[k];
                    least = Math.max(least, n < 1 ? MOST_BEAT + 1 : (bits + n - 1) / n);
                }
            }
            return least;
        }

        private int bitsOf(int ofKind) {
            int bits = 0;
            for (int a = 0; a < acts; a++) {
                if (kind[a] == ofKind) {
                    bits += Integer.bitCount(pattern[a]);
                }
            }
            return bits;
        }

        boolean touchesRows(int a) {
            return sort[a] == FETCH || sort[a] == STORE;
        }

        boolean mayBeRefused(int a) {
            return sort[a] == OVER || touchesRows(a);
        }

        /** Whether two acts use one slot in such a way that their order is felt. */
        boolean clash(int a, int b) {
            return touchesRows(a) && touchesRows(b) && slot[a] == slot[b]
                    && (sort[a] == STORE || sort[b] == STORE);
        }
    }

    /** Edges in the order in which they came, up to a number told at the beginning. */
    static final class EdgeList {
        int size = 0;
        final int[] from;
        final int[] to;
        final int[] ticks;
        final int[] turns;

        EdgeList(int room) {
            int length = Math.max(0, room);
            from = new int[length];
            to = new int[length];
            ticks = new int[length];
            turns = new int[length];
        }

        boolean join(int a, int b, int behind, int back) {
            if (size >= from.length) {
                return false;
            }
            write(size, a, b, behind, back);
            size++;
            return true;
        }

        private void write(int at, int a, int b, int behind, int back) {
            from[at] = a;
            to[at] = b;
            ticks[at] = behind;
            turns[at] = back;
        }

        void joinAll(EdgeList others) {
            for (int i = 0; i < others.size; i++) {
                join(others.from[i], others.to[i], others.ticks[i], others.turns[i]);
            }
        }

        void dropAct(int a) {
            int kept = 0;
            for (int i = 0; i < size; i++) {
                if (from[i] != a && to[i] != a) {
                    write(kept, from[i], to[i], ticks[i], turns[i]);
                    kept++;
                }
            }
            size = kept;
        }

        /** The order in which wrong() looks: by b, then a, then ticks, then turns. */
        boolean isAhead(int i, int j) {
            if (to[i] != to[j]) {
                return to[i] < to[j];
            }
            if (from[i] != from[j]) {
                return from[i] < from[j];
            }
            if (ticks[i] != ticks[j]) {
                return ticks[i] < ticks[j];
            }
            return turns[i] < turns[j];
        }
    }

    /** All edges of a body: its own ones, then those that were told. */
    static final class Weave {
        final EdgeList all = new EdgeList(MOST_EDGES);
        int own = 0;
        boolean stale = true;

        void renew(Body body) {
            if (!stale) {
                return;
            }
            all.size = 0;
            for (int b = 0; b < body.acts; b++) {
                joinOperands(body, b);
                joinClashes(body, b);
                if (body.sort[b] == STORE) {
                    joinStore(body, b);
                }
            }
            own = all.size;
            all.joinAll(body.told);
            stale = false;
        }

        private void joinOperands(Body body, int b) {
            for (int i = 0; i < OPERANDS; i++) {
                int a = body.operand[b * OPERANDS + i];
                if (body.has(a)) {
                    all.join(a, b, body.lag[a], body.back[b * OPERANDS + i]);
                }
            }
        }

        private void joinClashes(Body body, int b) {
            for (int a = 0; a < b; a++) {
                if (body.clash(a, b)) {
                    all.join(a, b, 1, 0);
                    all.join(b, a, 1, 1);
                }
            }
        }

        /** What a store does can't be taken back, so all that may be refused ahead comes before it. */
        private void joinStore(Body body, int b) {
            all.join(b, b, 1, 1);
            for (int a = 0; a < body.acts; a++) {
                if (a != b && body.mayBeRefused(a)) {
                    if (a < b) {
                        all.join(a, b, 1, 0);
                    }
                    all.join(a, b, 1, 1);
                }
            }
        }
    }

    /** What the edges ask at one beat: how far the begin of one act is behind that of another. */
    static final class Waits {
        /** By the edges between two acts; of several the farthest one binds. */
        final int[] direct = new int[MOST_ACTS * MOST_ACTS];
        /** By chains of edges. */
        final int[] chained = new int[MOST_ACTS * MOST_ACTS];

        void load(EdgeList edges, int beat) {
            Arrays.fill(direct, APART);
            for (int i = 0; i < edges.size; i++) {
                int at = edges.from[i] * MOST_ACTS + edges.to[i];
                direct[at] = Math.max(direct[at], edges.ticks[i] - beat * edges.turns[i]);
            }
        }

        /** Makes the chains; false, with the chains not done, if a ring asks for what can't be. */
        boolean join(int acts) {
            System.arraycopy(direct, 0, chained, 0, chained.length);
            for (int via = 0; via < acts; via++) {
                // A ring is told as soon as it shows: going on, its waits would grow without end.
                if (!joinBy(via, acts)) {
                    return false;
                }
            }
            return true;
        }

        private boolean joinBy(int via, int acts) {
            for (int a = 0; a < acts; a++) {
                int head = chained[a * MOST_ACTS + via];
                if (head != APART) {
                    joinRow(a, head, via, acts);
                }
                if (chained[a * MOST_ACTS + a] > 0) {
                    return false;
                }
            }
            return true;
        }

        private void joinRow(int a, int head, int via, int acts) {
            for (int b = 0; b < acts; b++) {
                int tail = chained[via * MOST_ACTS + b];
                if (tail != APART) {
                    int at = a * MOST_ACTS + b;
                    chained[at] = Math.max(chained[at], head + tail);
                }
            }
        }

        /** How late an act begins if all begin as soon as they may. */
        int earliest(int b, int acts) {
            int begin = 0;
            for (int a = 0; a < acts; a++) {
                begin = Math.max(begin, chained[a * MOST_ACTS + b]);
            }
            return begin;
        }

        /** How far behind the begin of an act the farthest one must be. */
        int farthest(int a, int acts) {
            int far = 0;
            for (int b = 0; b < acts; b++) {
                far = Math.max(far, chained[a * MOST_ACTS + b]);
            }
            return far;
        }
    }

    /** How many units of each kind are filled at each tick of a beat. */
    static final class Filling {
        final int[] cells = new int[KINDS * MOST_BEAT];

        void clear() {
            Arrays.fill(cells, 0);
        }

        int at(int kind, int tick) {
            return cells[kind * MOST_BEAT + tick];
        }

        /**
         * Adds what an act fills that begins at a tick of 0 or more, or takes it off again: the
         * most units that are filled then at one of its ticks.
         */
        int change(Body body, int a, int tick, int beat, int by) {
            int most = 0;
            if (beat < 1) {
                return most;
            }
            int pattern = body.pattern[a];
            int row = body.kind[a] * MOST_BEAT;
            for (int i = 0; i < PATTERN_BITS; i++) {
                if ((pattern >> i & 1) != 0) {
                    int at = row + (tick + i) % beat;
                    cells[at] += by;
                    most = Math.max(most, cells[at]);
                }
            }
            return most;
        }

        int firstCrowded(int kind, int units, int beat) {
            for (int tick = 0; tick < beat; tick++) {
                if (cells[kind * MOST_BEAT + tick] > units) {
                    return tick;
                }
            }
            return NONE;
        }
    }

    /** Lays out by trials at one beat: act by act, tick by tick, and back where nothing fits. */
    static final class Seeker {
        private final Body body;
        private final Waits waits;
        private final Filling filling = new Filling();
        /** Of each act a: how many stages acts 0 .. a must be behind one another, by chains. */
        private final int[] chains = new int[MOST_ACTS * MOST_ACTS * MOST_ACTS];
        private final int[] into = new int[MOST_ACTS];
        private final int[] outOf = new int[MOST_ACTS];
        private final int[] chainInto = new int[MOST_ACTS];
        private final int[] chainOutOf = new int[MOST_ACTS];
        private int beat = 1;
        final int[] tick = new int[MOST_ACTS];
        int trials = 0;

        Seeker(Body body, Waits waits) {
            this.body = body;
            this.waits = waits;
        }

        int beat() {
            return beat;
        }

        /** Goes on counting trials; the waits must be loaded for this beat, which is 1 .. 60. */
        int seek(int atBeat) {
            beat = Math.max(1, atBeat);
            filling.clear();
            tick[0] = 0;
            int a = 0;
            for (int step = 0; step < MOST_STEPS; step++) {
                if (a >= body.acts) {
                    return FOUND;
                }
                if (a < 0) {
                    return THROUGH;
                }
                if (tick[a] >= (a == 0 ? 1 : beat)) {
                    a--;
                    leave(a);
                } else if (trials >= MOST_TRIALS) {
                    return OUT_OF_TRIALS;
                } else {
                    a = attempt(a) ? enter(a + 1) : a;
                }
            }
            return OUT_OF_TRIALS;
        }

        private int enter(int a) {
            if (a < MOST_ACTS) {
                tick[a] = 0;
            }
            return a;
        }

        private void leave(int a) {
            if (a >= 0) {
                filling.change(body, a, tick[a], beat, -1);
                tick[a]++;
            }
        }

        /** One trial; what does not fit is taken off, with the next tick to be tried. */
        private boolean attempt(int a) {
            trials++;
            int most = filling.change(body, a, tick[a], beat, 1);
            if (most <= body.units[body.kind[a]] && edgesCanHold(a)) {
                chain(a);
                return true;
            }
            leave(a);
            return false;
        }

        /** Only rings through the new act can have become too long. */
        private boolean edgesCanHold(int a) {
            if (waits.direct[a * MOST_ACTS + a] > 0) {
                return false;
            }
            for (int j = 0; j < a; j++) {
                into[j] = stagesBetween(j, a);
                outOf[j] = stagesBetween(a, j);
            }
            for (int j = 0; j < a; j++) {
                if (outOf[j] != APART && closesRing(a, j)) {
                    return false;
                }
            }
            return true;
        }

        private boolean closesRing(int a, int j) {
            for (int l = 0; l < a; l++) {
                int between = chains[place(a - 1, j, l)];
                if (into[l] != APART && between != APART && outOf[j] + between + into[l] > 0) {
                    return true;
                }
            }
            return false;
        }

        private int stagesBetween(int a, int b) {
            int wait = waits.direct[a * MOST_ACTS + b];
            if (wait == APART || beat < 1) {
                return APART;
            }
            return Math.floorDiv(wait + tick[a] - tick[b] + beat - 1, beat);
        }

        /** Makes the chains among acts 0 .. a of those among the acts ahead of a. */
        private void chain(int a) {
            for (int j = 0; j < a; j++) {
                chainInto[j] = longestInto(a, j);
                chainOutOf[j] = longestOutOf(a, j);
            }
            for (int j = 0; j < a; j++) {
                System.arraycopy(chains, place(a - 1, j, 0), chains, place(a, j, 0), a);
                if (chainInto[j] != APART) {
                    lengthen(a, j);
                }
                chains[place(a, j, a)] = chainInto[j];
                chains[place(a, a, j)] = chainOutOf[j];
            }
            chains[place(a, a, a)] = 0;
        }

        /** The new act may join a chain from j with one that it begins itself. */
        private void lengthen(int a, int j) {
            int row = place(a, j, 0);
            for (int l = 0; l < a; l++) {
                if (chainOutOf[l] != APART) {
                    chains[row + l] = Math.max(chains[row + l], chainInto[j] + chainOutOf[l]);
                }
            }
        }

        private int longestInto(int a, int j) {
            int longest = APART;
            for (int l = 0; l < a; l++) {
                if (into[l] != APART) {
                    longest = Math.max(longest, plus(chains[place(a - 1, j, l)], into[l]));
                }
            }
            return longest;
        }

        private int longestOutOf(int a, int l) {
            int longest = APART;
            for (int j = 0; j < a; j++) {
                if (outOf[j] != APART) {
                    longest = Math.max(longest, plus(outOf[j], chains[place(a - 1, j, l)]));
                }
            }
            return longest;
        }

        private static int plus(int one, int other) {
            return one == APART || other == APART ? APART : one + other;
        }

        private static int place(int level, int j, int l) {
            return (level * MOST_ACTS + j) * MOST_ACTS + l;
        }

        /** The least stage of an act, once all have ticks. */
        int stageOf(int b) {
            int stage = 0;
            for (int a = 0; a < body.acts; a++) {
                stage = Math.max(stage, chains[place(body.acts - 1, a, b)]);
            }
            return stage;
        }
    }

    /** Where each act was laid, and what follows from that. */
    static final class Laying {
        boolean stands = false;
        int beat = 1;
        int stages = 1;
        final int[] tick = new int[MOST_ACTS];
        final int[] stage = new int[MOST_ACTS];
        final int[] begin = new int[MOST_ACTS];
        final int[] forged = new int[MOST_ACTS];
        final int[] early = new int[MOST_ACTS];
        final int[] late = new int[MOST_ACTS];
        final int[] places = new int[MOST_ACTS];
        /** The acts by their ticks, then by their numbers: as a laid run begins them. */
        final int[] order = new int[MOST_ACTS];
        final Filling filling = new Filling();

        void settle(Body body, Seeker seeker, Waits waits) {
            stands = true;
            beat = Math.max(1, seeker.beat());
            stages = 1;
            filling.clear();
            for (int a = 0; a < body.acts; a++) {
                tick[a] = seeker.tick[a];
                stage[a] = seeker.stageOf(a);
                begin[a] = stage[a] * beat + tick[a];
                forged[a] = begin[a];
                stages = Math.max(stages, 1 + stage[a]);
                filling.change(body, a, tick[a], beat, 1);
            }
            settleBounds(body.acts, waits);
            settlePlaces(body);
            settleOrder(body.acts);
        }

        private void settleBounds(int acts, Waits waits) {
            int last = 0;
            for (int a = 0; a < acts; a++) {
                early[a] = waits.earliest(a, acts);
                last = Math.max(last, early[a]);
            }
            for (int a = 0; a < acts; a++) {
                late[a] = last - waits.farthest(a, acts);
            }
        }

        private void settlePlaces(Body body) {
            Arrays.fill(places, 1);
            for (int at = 0; at < body.acts * OPERANDS; at++) {
                int a = body.operand[at];
                if (body.has(a)) {
                    int life = begin[at / OPERANDS] + beat * body.back[at] - begin[a];
                    places[a] = Math.max(places[a], beat < 1 ? 1 : life / beat + 1);
                }
            }
        }

        private void settleOrder(int acts) {
            int laid = 0;
            for (int r = 0; r < beat; r++) {
                for (int a = 0; a < acts; a++) {
                    if (tick[a] == r && laid < MOST_ACTS) {
                        order[laid] = a;
                        laid++;
                    }
                }
            }
        }

        int lastEnd(Body body) {
            int last = 0;
            for (int a = 0; a < body.acts; a++) {
                last = Math.max(last, begin[a] + body.lag[a]);
            }
            return last;
        }

        int placesInAll(int acts) {
            int sum = 0;
            for (int a = 0; a < acts; a++) {
                sum += places[a];
            }
            return sum;
        }

        int mostPlaces(int acts) {
            int most = 0;
            for (int a = 0; a < acts; a++) {
                most = Math.max(most, places[a]);
            }
            return most;
        }
    }

    /** Looks whether a laying is right, with what was forged, and keeps what is wrong in it. */
    static final class Judge {
        static final int FINDINGS = 6;
        /** a, b, ticks, turns of an edge; kind and tick of units. */
        final int[] findings = new int[FINDINGS];
        private final Filling filling = new Filling();

        Judge() {
            Arrays.fill(findings, NONE);
        }

        int look(Body body, EdgeList edges, Laying laying) {
            Arrays.fill(findings, NONE);
            int broken = firstBroken(edges, laying);
            if (broken != NONE) {
                findings[0] = edges.from[broken];
                findings[1] = edges.to[broken];
                findings[2] = edges.ticks[broken];
                findings[3] = edges.turns[broken];
                return 1;
            }
            return findCrowd(body, laying) ? 2 : 0;
        }

        private int firstBroken(EdgeList edges, Laying laying) {
            int found = NONE;
            for (int i = 0; i < edges.size; i++) {
                int gap = laying.forged[edges.to[i]] - laying.forged[edges.from[i]];
                boolean holds = gap + laying.beat * edges.turns[i] >= edges.ticks[i];
                if (!holds && (found == NONE || edges.isAhead(i, found))) {
                    found = i;
                }
            }
            return found;
        }

        private boolean findCrowd(Body body, Laying laying) {
            filling.clear();
            for (int a = 0; a < body.acts; a++) {
                filling.change(body, a, laying.forged[a], laying.beat, 1);
            }
            for (int kind = 0; kind < KINDS; kind++) {
                int tick = filling.firstCrowded(kind, body.units[kind], laying.beat);
                if (tick != NONE) {
                    findings[4] = kind;
                    findings[5] = tick;
                    return true;
                }
            }
            return false;
        }
    }

    /** The slots: a size of 0 says that there is nothing. */
    static final class Rows {
        final int[] size = new int[SLOTS];
        final boolean[] wide = new boolean[SLOTS];
        final long[] longs = new long[SLOTS * MOST_PLACES];

        void make(int s, int n, boolean isWide) {
            size[s] = n;
            wide[s] = isWide;
            for (int i = 0; i < MOST_PLACES; i++) {
                longs[placeOf(s, i)] = 0L;
            }
        }

        boolean drop(int s) {
            boolean had = size[s] > 0;
            size[s] = 0;
            return had;
        }

        static int placeOf(int s, int i) {
            return s * MOST_PLACES + i;
        }

        /** Why a place can't be used, or 0; the place is a long, as an end may tell it. */
        int refusalAt(int s, long i) {
            if (s < 0 || s >= SLOTS) {
                return BEYOND;
            }
            if (size[s] == 0) {
                return MISSING;
            }
            if (!wide[s]) {
                return KIND;
            }
            return i < 0L || i >= (long) size[s] ? BEYOND : 0;
        }

        boolean hasRun(int s, int i, int n) {
            return i >= 0 && (long) i + n <= size[s];
        }
    }

    /** What a run came to. */
    static final class Outcome {
        int refusal = 0;
        int act = NONE;
        int turn = NONE;
        int begun = 0;
        int ticks = 0;
        boolean byTicks = false;
        int whole = 0;
        final long[] ends = new long[MOST_ACTS];

        void clear() {
            refusal = 0;
            act = NONE;
            turn = NONE;
            begun = 0;
            ticks = 0;
            byTicks = false;
            whole = 0;
        }

        void refused(int by, int a, int t) {
            refusal = by;
            act = a;
            turn = t;
        }

        /** Whether an act of a turn stands behind the one that was refused. */
        boolean endsAheadOf(int a, int t) {
            return refusal != 0 && (t > turn || (t == turn && a > act));
        }

        boolean isLike(Outcome other, int acts) {
            if (refusal != other.refusal || act != other.act || turn != other.turn
                    || whole != other.whole) {
                return false;
            }
            for (int a = 0; a < acts && whole > 0; a++) {
                if (ends[a] != other.ends[a]) {
                    return false;
                }
            }
            return true;
        }
    }

    /** Runs a body, plain or by ticks, on the rows as they are. */
    static final class Runner {
        private final Body body;
        private final Rows rows;
        private final Laying laying;
        /**
         * The ends of all turns, the four before the first one ahead of them. No act of a right
         * laying reads a place that went round, so a place of its own for each turn comes to the
         * same, and the last whole turn is still there when later ones had begun.
         */
        private final long[] ends = new long[(MOST_BACK + MOST_TURNS) * MOST_ACTS];
        private final Outcome plain = new Outcome();
        private final Outcome laid = new Outcome();
        private final long[] rowsBefore = new long[SLOTS * MOST_PLACES];
        private final long[] rowsOfPlain = new long[SLOTS * MOST_PLACES];

        Runner(Body body, Rows rows, Laying laying) {
            this.body = body;
            this.rows = rows;
            this.laying = laying;
        }

        /** Of 0 .. 200 turns. */
        void go(int n, boolean byTicks, Outcome out) {
            out.clear();
            for (int t = -MOST_BACK; t < 0; t++) {
                System.arraycopy(body.first, 0, ends, placeOf(0, t), MOST_ACTS);
            }
            if (byTicks && n >= laying.stages) {
                goByTicks(n, out);
            } else {
                goPlain(n, out);
            }
            out.whole = out.refusal == 0 ? n : out.turn;
            if (out.whole > 0) {
                System.arraycopy(ends, placeOf(0, out.whole - 1), out.ends, 0, MOST_ACTS);
            }
        }

        boolean bothAgree(int n) {
            System.arraycopy(rows.longs, 0, rowsBefore, 0, rowsBefore.length);
            go(n, false, plain);
            System.arraycopy(rows.longs, 0, rowsOfPlain, 0, rowsOfPlain.length);
            System.arraycopy(rowsBefore, 0, rows.longs, 0, rowsBefore.length);
            go(n, true, laid);
            boolean agree = plain.isLike(laid, body.acts) && rowsAreAsOfPlain();
            System.arraycopy(rowsBefore, 0, rows.longs, 0, rowsBefore.length);
            return agree;
        }

        private boolean rowsAreAsOfPlain() {
            for (int i = 0; i < rowsOfPlain.length; i++) {
                if (rows.longs[i] != rowsOfPlain[i]) {
                    return false;
                }
            }
            return true;
        }

        private void goPlain(int n, Outcome out) {
            for (int t = 0; t < n && out.refusal == 0; t++) {
                for (int a = 0; a < body.acts && out.refusal == 0; a++) {
                    begin(a, t, out);
                    out.ticks += body.lag[a];
                }
            }
        }

        /** In each beat the acts begin in the same order, each for the turn that its stage tells. */
        private void goByTicks(int n, Outcome out) {
            out.byTicks = true;
            for (int beats = 0; beats < n + laying.stages - 1; beats++) {
                for (int i = 0; i < body.acts; i++) {
                    int a = laying.order[i];
                    int t = beats - laying.stage[a];
                    if (t >= 0 && t < n && !out.endsAheadOf(a, t)) {
                        begin(a, t, out);
                        out.ticks = beats * laying.beat + laying.tick[a] + 1;
                    }
                }
            }
        }

        private void begin(int a, int t, Outcome out) {
            out.begun++;
            int refusal = refusalOf(a, t);
            if (refusal != 0) {
                out.refused(refusal, a, t);
            } else {
                ends[placeOf(a, t)] = endOf(a, t);
            }
        }

        private int refusalOf(int a, int t) {
            if (body.touchesRows(a)) {
                return rows.refusalAt(body.slot[a], taken(a, 0, t));
            }
            return body.sort[a] == OVER && taken(a, 1, t) == 0L ? ZERO : 0;
        }

        /** What an act that is not refused comes to. */
        private long endOf(int a, int t) {
            switch (body.sort[a]) {
                case PUT:
                    return body.number[a];
                case SUM:
                    return taken(a, 0, t) + taken(a, 1, t);
                case TIMES:
                    return taken(a, 0, t) * taken(a, 1, t);
                case OVER:
                    return quotient(taken(a, 0, t), taken(a, 1, t));
                case FETCH:
                    return rows.longs[Rows.placeOf(body.slot[a], (int) taken(a, 0, t))];
                case STORE:
                    return exchange(Rows.placeOf(body.slot[a], (int) taken(a, 0, t)), taken(a, 1, t));
                default:
                    return taken(a, 0, t) != 0L ? taken(a, 1, t) : taken(a, 2, t);
            }
        }

        private static long quotient(long x, long y) {
            return y == 0L ? 0L : x / y;
        }

        private long exchange(int place, long v) {
            long before = rows.longs[place];
            rows.longs[place] = v;
            return before;
        }

        private long taken(int a, int which, int t) {
            int at = a * OPERANDS + which;
            return ends[(MOST_BACK + t - body.back[at]) * MOST_ACTS + body.operand[at]];
        }

        private static int placeOf(int a, int t) {
            return (MOST_BACK + t) * MOST_ACTS + a;
        }
    }
}
