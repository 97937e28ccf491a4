/**
 * What the tests of single sentences share: the sentence that a test is of, objects to begin with,
 * and refused calls, of each of which is looked at all that the document says of refused calls.
 */
abstract class Checks {
    static final int NONE = -1, MISSING = -2, BEYOND = -3, BELOW = -4, KIND = -5, COPY = -6,
            NOTHING = -7, ZERO = -8, NO = -9, FULL = -10, SPENT = -11;
    static final int LEAST = Integer.MIN_VALUE, MOST = Integer.MAX_VALUE;

    /** Calls that bring a new object to where a test begins. */
    interface Making {
        void on(LoopLane x);
    }

    interface Call {
        long on(LoopLane x);
    }

    /** The first line of a test: where in the document its sentence stands, and its words. */
    static void sentence(String of, String words) {
        Due.heading(of + " \"" + words + "\"");
    }

    static void due(String call, long got, long want) {
        Due.due(call, got, want);
    }

    static LoopLane after(Making making) {
        LoopLane x = new LoopLane();
        making.on(x);
        return x;
    }

    static LoopLane puts(int n) {
        LoopLane x = new LoopLane();
        addPuts(x, n);
        return x;
    }

    static void addPuts(LoopLane x, int n) {
        for (int i = 0; i < n; i++) {
            x.put(100 + i);
        }
    }

    /** So many puts, each of a kind of its own, 6 at most: units do not speak against any beat. */
    static LoopLane apart(int n) {
        LoopLane x = puts(n);
        for (int a = 0; a < n; a++) {
            x.works(a, 1, a, 1);
        }
        return x;
    }

    /** b begins just so many ticks behind a. */
    static void fix(LoopLane x, int a, int b, int ticks) {
        x.edge(a, b, ticks, 0);
        x.edge(b, a, -ticks, 0);
    }

    static void nothing(LoopLane x) {
    }

    static void full(LoopLane x) {
        addPuts(x, 16);
        x.lay();
    }

    /** Has something of all that a call might change: rows, acts, a laying, a run, a forged act. */
    static void lived(LoopLane x) {
        x.row(0, 5, true);
        x.row(1, 3, false);
        x.row(7, 2, true);
        x.set(0, 1, 11);
        x.set(7, 1, -3);
        x.put(1);
        x.reckon(1, 0, 0, 1, 1);
        x.fetch(0, 1, 0);
        x.store(7, 0, 0, 2, 0);
        x.first(1, -1);
        x.works(2, 3, 1, 5);
        x.unit(1, 2);
        x.edge(0, 3, 2, 0);
        x.edge(3, 2, -4, 1);
        x.lay();
        x.run(9, true);
        x.forge(3, 1);
        x.check();
    }

    /** As lived(), but the latest prove() made no trials, as a refused one makes none. */
    static void livedWithoutTrials(LoopLane x) {
        lived(x);
        x.prove(1);
    }

    /** As lived(), without the laying and what comes of one. */
    static void unlaid(LoopLane x) {
        lived(x);
        x.unit(1, 3);
        x.unit(1, 2);
        x.run(3, false);
    }

    /** A refused call answers by what it is refused. */
    static void refused(String call, Making making, Call made, int by) {
        refusedAs(call, making, made, by, by);
    }

    /** A refused number(), get() or end() answers 0L. */
    static void refusedLong(String call, Making making, Call made, int by) {
        refusedAs(call, making, made, 0L, by);
    }

    /** Of two objects that came to be by the same calls one is refused; they must stay the same. */
    private static void refusedAs(String call, Making making, Call made, long answer, int by) {
        LoopLane one = after(making);
        LoopLane other = after(making);
        one.again();
        other.again();
        due(call, made.on(one), answer);
        for (int s = SPENT; s <= MISSING; s++) {
            due(call + ", then status(" + s + ")", one.status(s), other.status(s) + (s == by ? 1 : 0));
        }
        due(call + ", then again()", one.again(), by);
        due(call + ", then again() twice", one.again(), NOTHING);
        Due.same(call + ", then all that can be seen", picture(one), picture(other));
    }

    /** A call that is taken leaves again() and status() as they are. */
    static void taken(String call, LoopLane x, Call made, long answer) {
        x.again();
        due(call, made.on(x), answer);
        due(call + ", then again()", x.again(), NOTHING);
    }

    /**
     * All that can be seen of an object but again() and status(), by 440 calls at most, since no more
     * than 512 are promised to an object; it is not the same behind that.
     */
    static String picture(LoopLane x) {
        StringBuilder seen = new StringBuilder();
        seen.append("trials ").append(x.trials());
        seeParts(seen, " wrong", 6, x::wrong);
        seeParts(seen, " told", 6, x::told);
        seeParts(seen, " count", 5, x::count);
        seen.append(" whole ").append(x.whole());
        seeActs(x, seen);
        seeRows(x, seen);
        seeLaying(x, seen);
        seeForged(x, seen);
        seeParts(seen, " unit", 6, kind -> x.unit(kind, 1));
        return seen.toString();
    }

    interface Part {
        long of(int what);
    }

    private static void seeParts(StringBuilder seen, String name, int n, Part part) {
        seen.append(name);
        for (int i = 0; i < n; i++) {
            seen.append(' ').append(part.of(i));
        }
    }

    private static void seeActs(LoopLane x, StringBuilder seen) {
        int acts = x.count(0);
        for (int a = 0; a < acts; a++) {
            int act = a;
            seeParts(seen, " act" + a, 11, what -> x.act(act, what));
            seen.append(" number ").append(x.number(a)).append(" end ").append(x.end(a));
        }
    }

    private static void seeRows(LoopLane x, StringBuilder seen) {
        for (int s = 0; s < 8; s++) {
            int slot = s;
            seen.append(" row").append(s).append(" ").append(x.copy(s, 0, s, 0, 0));
            seeParts(seen, "", 3, i -> x.get(slot, i));
        }
    }

    private static void seeLaying(LoopLane x, StringBuilder seen) {
        int beat = x.laying(0);
        int acts = beat > 0 ? x.count(0) : 0;
        seen.append(" lowest ").append(x.lowest());
        seeParts(seen, " laying", 3, x::laying);
        seeParts(seen, " fewest", 2, x::fewest);
        for (int a = 0; a < acts; a++) {
            int act = a;
            seeParts(seen, " tick" + a, 5, what -> x.tick(act, what));
            seen.append(" names ").append(x.names(a));
        }
        for (int kind = 0; kind < 6; kind++) {
            int of = kind;
            seeParts(seen, " filled" + kind, Math.min(3, Math.max(0, beat)), t -> x.filled(of, t));
        }
    }

    private static void seeForged(LoopLane x, StringBuilder seen) {
        seen.append(" check ").append(x.check());
        seeParts(seen, " wrong", 6, x::wrong);
        seeParts(seen, " forged", x.count(0), a -> x.forge(a, 0));
        seen.append(" check ").append(x.check());
        seeParts(seen, " wrong", 6, x::wrong);
    }
}
