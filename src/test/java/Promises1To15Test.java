/** Promises 1 to 15, sentence by sentence: the body. */
public final class Promises1To15Test extends Checks {
    private static final int[] FAR = {LEAST, -2, -1, 16, 17, MOST};

    public static void main(String[] args) {
        newObject();
        put();
        putFull();
        reckon();
        reckonOfOnesThatDoNotStand();
        reckonNo();
        reckonBeyond();
        reckonFull();
        noIsLookedAtFirst();
        fetch();
        fetchRefused();
        store();
        storeRefused();
        pick();
        pickRefused();
        works();
        worksRefused();
        first();
        firstRefused();
        unit();
        unitRefused();
        edge();
        edgeBeyond();
        edgeNo();
        edgeFull();
        undo();
        undoMissing();
        undoNo();
        act();
        actRefused();
        number();
        numberBeyond();
        numberKind();
        count();
        countNo();
        whole();
        notWhole();
        Due.finish("Promises1To15Test");
    }

    private static void parts(String name, LoopLane x, int a, int... want) {
        for (int what = 0; what < want.length; what++) {
            due(name + ", act(" + a + ", " + what + ")", x.act(a, what), want[what]);
        }
    }

    private static void newObject() {
        sentence("Promise 1", "An empty BODY, one UNIT of each kind, nothing in the SLOTS, no told EDGES, no LAYING.");
        after(Checks::lived);
        LoopLane x = new LoopLane();
        int[] counts = {0, 0, 0, 0, 6};
        for (int what = 0; what < 5; what++) {
            due("count(" + what + ")", x.count(what), counts[what]);
        }
        for (int s = 0; s < 8; s++) {
            due("empty(" + s + ")", x.empty(s), 0);
        }
        for (int kind = 0; kind < 6; kind++) {
            due("unit(" + kind + ", 0)", x.unit(kind, 0), 1);
        }
        due("trials()", x.trials(), 0);
        due("again()", x.again(), NOTHING);
        for (int by = SPENT; by <= MISSING; by++) {
            due("status(" + by + ")", x.status(by), 0);
        }
        due("laying(0)", x.laying(0), MISSING);
        due("check()", x.check(), MISSING);
        due("act(0, 0)", x.act(0, 0), BEYOND);
        due("first(0, 1)", x.first(0, 1), BEYOND);
        due("works(0, 1, 0, 1)", x.works(0, 1, 0, 1), BEYOND);
        due("edge(0, 0, 0, 0)", x.edge(0, 0, 0, 0), BEYOND);
        due("the first act", x.put(1), 0);
    }

    private static void put() {
        sentence("Promise 2", "A PUT of v, LAG 1, UNIT kind 0, PATTERN 1, FIRST 0: its number.");
        LoopLane x = new LoopLane();
        long[] numbers = {0, 1, -1, Long.MIN_VALUE, Long.MAX_VALUE, 1L << 32};
        for (int a = 0; a < numbers.length; a++) {
            taken("put(" + numbers[a] + ")", x, y -> y.put(numbers[y.count(0)]), a);
            parts("put", x, a, 0, 1, 0, 1, NONE, NONE, NONE, NONE, NONE, NONE, NONE);
            due("number(" + a + ")", x.number(a), numbers[a]);
            due("FIRST of " + a, x.end(a), 0);
        }
        x.works(5, 12, 5, 255);
        x.first(5, 77);
        x.undo();
        due("in the place of one that went", x.put(4), 5);
        parts("in its place", x, 5, 0, 1, 0, 1, NONE, NONE, NONE, NONE, NONE, NONE, NONE);
        due("FIRST in its place", x.end(5), 0);
        x.undo();
        x.reckon(1, 0, 0, 1, 1);
        x.undo();
        x.put(9);
        parts("in place of a sum", x, 5, 0, 1, 0, 1, NONE, NONE, NONE, NONE, NONE, NONE, NONE);
    }

    private static void putFull() {
        sentence("Promise 2", "FULL: 16 ACTS.");
        LoopLane x = puts(15);
        taken("the 16th", x, y -> y.put(1), 15);
        refused("the 17th", Checks::full, y -> y.put(1), FULL);
        due("one goes", x.undo(), 15);
        due("and one comes", x.put(2), 15);
        due("the 17th", x.put(3), FULL);
        due("it is the one that came", x.number(15), 2);
    }

    private static void reckon() {
        sentence("Promise 3", "SUM (1), TIMES (2), OVER (3) of the ENDS of x and y, of dx and dy TURNS before (0 .. 4); else as put().");
        for (int sort = 1; sort <= 3; sort++) {
            for (int dx = 0; dx <= 4; dx++) {
                for (int dy = 0; dy <= 4; dy++) {
                    LoopLane x = puts(2);
                    int s = sort;
                    int back = dx;
                    int other = dy;
                    taken("reckon", x, y -> y.reckon(s, 0, back, 1, other), 2);
                    parts("reckon", x, 2, sort, 1, 0, 1, NONE, 0, dx, 1, dy, NONE, NONE);
                    due("FIRST", x.end(2), 0);
                }
            }
        }
        LoopLane x = puts(1);
        x.reckon(1, 0, 0, 1, 1);
        x.reckon(1, 1, 1, 1, 3);
        x.reckon(2, 1, 0, 1, 2);
        x.reckon(3, 2, 0, 1, 4);
        x.first(1, 100);
        // act 1 is 200, 300, ..
        due("8 turns", x.run(8, false), 8);
        due("sum, of 1 and 3 before", x.end(2), 800 + 600);
        due("times, of this one and 2 before", x.end(3), 900 * 700);
        due("over, of this one and 4 before", x.end(4), 1400 / 500);
    }

    private static void reckonOfOnesThatDoNotStand() {
        sentence("Promise 3", "x, y may be ACTS that do not stand yet (0 .. 15) if dx, dy are not 0.");
        for (int d = 1; d <= 4; d++) {
            for (int of : new int[] {0, 1, 14, 15}) {
                LoopLane x = new LoopLane();
                due("x " + of + " of " + d + " before", x.reckon(1, of, d, 0, 1), 0);
                due("y " + of + " of " + d + " before", x.reckon(2, 0, 1, of, d), 1);
                due("act(0, 5)", x.act(0, 5), of);
                due("act(1, 7)", x.act(1, 7), of);
            }
        }
        LoopLane x = new LoopLane();
        x.reckon(1, 1, 1, 2, 2);
        due("they come", x.put(5), 1);
        due("they come", x.put(7), 2);
        x.first(2, 1000);
        x.run(2, false);
        due("5 of 1 before, FIRST of 2 before", x.end(0), 1005);
        x.run(3, false);
        due("5 of 1 before, 7 of 2 before", x.end(0), 12);
    }

    private static void reckonNo() {
        sentence("Promise 3", "NO: no such SORT, or TURNS;");
        for (int sort : new int[] {LEAST, -1, 0, 4, 5, 6, 7, MOST}) {
            refused("sort " + sort, Checks::lived, y -> y.reckon(sort, 0, 0, 0, 0), NO);
        }
        for (int d : new int[] {LEAST, -1, 5, MOST}) {
            refused("dx " + d, Checks::lived, y -> y.reckon(1, 0, d, 0, 0), NO);
            refused("dy " + d, Checks::lived, y -> y.reckon(3, 0, 0, 0, d), NO);
        }
    }

    private static void reckonBeyond() {
        sentence("Promise 3", "BEYOND: x or y is not 0 .. 15, or is this one or a later one with TURNS 0;");
        for (int of : FAR) {
            refused("x " + of + " of 1 before", Checks::lived, y -> y.reckon(1, of, 1, 0, 0), BEYOND);
            refused("y " + of + " of 4 before", Checks::lived, y -> y.reckon(1, 0, 0, of, 4), BEYOND);
            refused("x " + of, Checks::lived, y -> y.reckon(2, of, 0, 0, 0), BEYOND);
            refused("y " + of, Checks::lived, y -> y.reckon(3, 0, 0, of, 0), BEYOND);
        }
        for (int of : new int[] {4, 5, 15}) {
            refused("x " + of + " as act 4", Checks::lived, y -> y.reckon(1, of, 0, 0, 0), BEYOND);
            refused("y " + of + " as act 4", Checks::lived, y -> y.reckon(1, 0, 0, of, 0), BEYOND);
        }
        refused("x 0 as act 0", Checks::nothing, y -> y.reckon(1, 0, 0, 0, 1), BEYOND);
        refused("y 0 as act 0", Checks::nothing, y -> y.reckon(1, 0, 1, 0, 0), BEYOND);
        LoopLane x = after(Checks::lived);
        due("the act before, as both", x.reckon(1, 3, 0, 3, 0), 4);
    }

    private static void reckonFull() {
        sentence("Promise 3", "FULL.");
        LoopLane x = puts(15);
        due("the 16th", x.reckon(1, 14, 0, 15, 1), 15);
        refused("the 17th", Checks::full, y -> y.reckon(1, 15, 0, 0, 0), FULL);
        refused("the 17th, of turns before", Checks::full, y -> y.reckon(1, 15, 4, 0, 1), FULL);
    }

    private static void noIsLookedAtFirst() {
        sentence("Promise 3", "(NO is looked at first here and in the next three.)");
        refused("reckon, sort and x", Checks::full, y -> y.reckon(4, -1, 0, 0, 0), NO);
        refused("reckon, dy and x", Checks::full, y -> y.reckon(1, 16, 0, 0, 5), NO);
        refused("reckon, dx and itself", Checks::lived, y -> y.reckon(1, 4, -1, 4, 0), NO);
        refused("fetch, dx and s", Checks::full, y -> y.fetch(8, 0, 5), NO);
        refused("fetch, dx and x", Checks::full, y -> y.fetch(0, 16, -1), NO);
        refused("store, dx and s", Checks::full, y -> y.store(-1, 0, 5, 0, 0), NO);
        refused("store, dy and x", Checks::full, y -> y.store(0, 16, 0, 0, -1), NO);
        refused("pick, dz and x", Checks::full, y -> y.pick(-1, 0, 0, 5), NO);
        refused("pick, dz and z", Checks::full, y -> y.pick(0, 0, 16, -1), NO);
        refused("reckon, NO and FULL", Checks::full, y -> y.reckon(0, 0, 0, 0, 0), NO);
        refused("fetch, NO and FULL", Checks::full, y -> y.fetch(0, 0, 5), NO);
        refused("store, NO and FULL", Checks::full, y -> y.store(0, 0, 0, 0, 5), NO);
        refused("pick, NO and FULL", Checks::full, y -> y.pick(0, 0, 0, 5), NO);
    }

    private static void fetch() {
        sentence("Promise 4", "A FETCH from SLOT s at x, of dx TURNS before.");
        for (int s = 0; s <= 7; s++) {
            for (int d = 0; d <= 4; d++) {
                LoopLane x = puts(1);
                int slot = s;
                int back = d;
                taken("fetch", x, y -> y.fetch(slot, 0, back), 1);
                parts("fetch", x, 1, 4, 1, 0, 1, s, 0, d, NONE, NONE, NONE, NONE);
                due("FIRST", x.end(1), 0);
            }
        }
        LoopLane x = new LoopLane();
        due("at one that does not stand", x.fetch(3, 15, 4), 0);
        due("at its own", x.fetch(3, 1, 1), 1);
        due("at the one before, of this turn", x.fetch(3, 1, 0), 2);
    }

    private static void fetchRefused() {
        sentence("Promise 4", "NO (TURNS), BEYOND (s, too), FULL.");
        for (int d : new int[] {LEAST, -1, 5, MOST}) {
            refused("dx " + d, Checks::lived, y -> y.fetch(0, 0, d), NO);
        }
        for (int s : new int[] {LEAST, -1, 8, MOST}) {
            refused("slot " + s, Checks::lived, y -> y.fetch(s, 0, 0), BEYOND);
        }
        for (int of : FAR) {
            refused("x " + of, Checks::lived, y -> y.fetch(0, of, 0), BEYOND);
            refused("x " + of + " of 1 before", Checks::lived, y -> y.fetch(0, of, 1), BEYOND);
        }
        refused("x its own", Checks::lived, y -> y.fetch(0, 4, 0), BEYOND);
        refused("x a later one", Checks::lived, y -> y.fetch(0, 15, 0), BEYOND);
        LoopLane x = puts(15);
        due("the 16th", x.fetch(7, 14, 0), 15);
        refused("the 17th", Checks::full, y -> y.fetch(0, 15, 0), FULL);
        refused("BEYOND ahead of FULL, s", Checks::full, y -> y.fetch(8, 0, 0), BEYOND);
        refused("BEYOND ahead of FULL, x", Checks::full, y -> y.fetch(0, 16, 1), BEYOND);
    }

    private static void store() {
        sentence("Promise 5", "A STORE to SLOT s at x of y.");
        for (int s = 0; s <= 7; s++) {
            for (int d = 0; d <= 4; d++) {
                LoopLane x = puts(2);
                int slot = s;
                int back = d;
                taken("store", x, y -> y.store(slot, 0, back, 1, 4 - back), 2);
                parts("store", x, 2, 5, 1, 0, 1, s, 0, d, 1, 4 - d, NONE, NONE);
                due("FIRST", x.end(2), 0);
            }
        }
        LoopLane x = new LoopLane();
        due("at and of ones that do not stand", x.store(3, 15, 4, 14, 1), 0);
        due("at and of its own", x.store(3, 1, 1, 1, 4), 1);
        due("at and of the one before, of this turn", x.store(3, 1, 0, 1, 0), 2);
    }

    private static void storeRefused() {
        sentence("Promise 5", "NO, BEYOND, FULL.");
        for (int d : new int[] {LEAST, -1, 5, MOST}) {
            refused("dx " + d, Checks::lived, y -> y.store(0, 0, d, 0, 0), NO);
            refused("dy " + d, Checks::lived, y -> y.store(0, 0, 0, 0, d), NO);
        }
        for (int s : new int[] {LEAST, -1, 8, MOST}) {
            refused("slot " + s, Checks::lived, y -> y.store(s, 0, 0, 0, 0), BEYOND);
        }
        for (int of : FAR) {
            refused("x " + of, Checks::lived, y -> y.store(0, of, 0, 0, 0), BEYOND);
            refused("y " + of, Checks::lived, y -> y.store(0, 0, 0, of, 0), BEYOND);
            refused("x " + of + " of 1 before", Checks::lived, y -> y.store(0, of, 1, 0, 0), BEYOND);
            refused("y " + of + " of 4 before", Checks::lived, y -> y.store(0, 0, 0, of, 4), BEYOND);
        }
        refused("x its own", Checks::lived, y -> y.store(0, 4, 0, 0, 0), BEYOND);
        refused("y its own", Checks::lived, y -> y.store(0, 0, 0, 4, 0), BEYOND);
        refused("y a later one", Checks::lived, y -> y.store(0, 0, 0, 15, 0), BEYOND);
        LoopLane x = puts(15);
        due("the 16th", x.store(7, 14, 0, 14, 0), 15);
        refused("the 17th", Checks::full, y -> y.store(0, 15, 0, 15, 0), FULL);
        refused("BEYOND ahead of FULL, s", Checks::full, y -> y.store(8, 0, 0, 0, 0), BEYOND);
        refused("BEYOND ahead of FULL, y", Checks::full, y -> y.store(0, 0, 0, 16, 1), BEYOND);
    }

    private static void pick() {
        sentence("Promise 6", "A PICK by x of y or z, x and y of this TURN, z of dz TURNS before.");
        for (int d = 0; d <= 4; d++) {
            LoopLane x = puts(3);
            int back = d;
            taken("pick", x, y -> y.pick(0, 1, 2, back), 3);
            parts("pick", x, 3, 6, 1, 0, 1, NONE, 0, 0, 1, 0, 2, d);
            due("FIRST", x.end(3), 0);
        }
        LoopLane x = puts(1);
        due("z does not stand", x.pick(0, 0, 15, 4), 1);
        due("z is its own", x.pick(1, 1, 2, 1), 2);
        due("all the one before", x.pick(2, 2, 2, 0), 3);
    }

    private static void pickRefused() {
        sentence("Promise 6", "NO, BEYOND, FULL.");
        for (int d : new int[] {LEAST, -1, 5, MOST}) {
            refused("dz " + d, Checks::lived, y -> y.pick(0, 0, 0, d), NO);
        }
        for (int of : FAR) {
            refused("x " + of, Checks::lived, y -> y.pick(of, 0, 0, 0), BEYOND);
            refused("y " + of, Checks::lived, y -> y.pick(0, of, 0, 0), BEYOND);
            refused("z " + of, Checks::lived, y -> y.pick(0, 0, of, 0), BEYOND);
            refused("z " + of + " of 1 before", Checks::lived, y -> y.pick(0, 0, of, 1), BEYOND);
        }
        for (int of : new int[] {4, 5, 15}) {
            refused("x " + of + ", which does not stand", Checks::lived, y -> y.pick(of, 0, 0, 1), BEYOND);
            refused("y " + of + ", which does not stand", Checks::lived, y -> y.pick(0, of, 0, 1), BEYOND);
            refused("z " + of + " of this turn", Checks::lived, y -> y.pick(0, 0, of, 0), BEYOND);
        }
        LoopLane x = puts(15);
        due("the 16th", x.pick(14, 14, 15, 1), 15);
        refused("the 17th", Checks::full, y -> y.pick(15, 15, 15, 0), FULL);
        refused("BEYOND ahead of FULL", Checks::full, y -> y.pick(0, 0, 16, 0), BEYOND);
    }

    private static void works() {
        sentence("Promise 7", "ACT a has a LAG, a UNIT kind, a PATTERN: 1.");
        LoopLane x = after(Checks::lived);
        int[][] told = {{1, 0, 1}, {12, 5, 255}, {12, 0, 2}, {1, 5, 128}, {6, 3, 254}};
        for (int a = 0; a < 4; a++) {
            for (int[] w : told) {
                int act = a;
                taken("works", x, y -> y.works(act, w[0], w[1], w[2]), 1);
                due("lag", x.act(a, 1), w[0]);
                due("kind", x.act(a, 2), w[1]);
                due("pattern", x.act(a, 3), w[2]);
            }
            due("the sort stays", x.act(a, 0), new int[] {0, 1, 4, 5}[a]);
        }
        x = puts(3);
        x.works(1, 7, 4, 9);
        parts("the one before", x, 0, 0, 1, 0, 1);
        parts("the one behind", x, 2, 0, 1, 0, 1);
    }

    private static void worksRefused() {
        sentence("Promise 7", "BEYOND: no such ACT, kind; NO: LAG, PATTERN.");
        for (int a : new int[] {LEAST, -1, 4, 15, 16, MOST}) {
            refused("act " + a, Checks::lived, y -> y.works(a, 1, 0, 1), BEYOND);
        }
        for (int kind : new int[] {LEAST, -1, 6, MOST}) {
            refused("kind " + kind, Checks::lived, y -> y.works(0, 1, kind, 1), BEYOND);
        }
        for (int lag : new int[] {LEAST, -1, 0, 13, MOST}) {
            refused("lag " + lag, Checks::lived, y -> y.works(0, lag, 0, 1), NO);
        }
        for (int pattern : new int[] {LEAST, -1, 0, 256, 257, 511, MOST}) {
            refused("pattern " + pattern, Checks::lived, y -> y.works(0, 1, 0, pattern), NO);
        }
        refused("kind ahead of lag", Checks::lived, y -> y.works(0, 0, 6, 1), BEYOND);
        refused("kind ahead of pattern", Checks::lived, y -> y.works(0, 1, -1, 0), BEYOND);
        refused("act ahead of all", Checks::lived, y -> y.works(4, 0, 0, 0), BEYOND);
        refused("no acts", Checks::nothing, y -> y.works(0, 1, 0, 1), BEYOND);
    }

    private static void first() {
        sentence("Promise 8", "ACT a's FIRST is v: 1.");
        for (long v : new long[] {0, 1, -1, Long.MIN_VALUE, Long.MAX_VALUE}) {
            LoopLane x = puts(16);
            for (int a : new int[] {0, 7, 15}) {
                taken("first", x, y -> y.first(a, v), 1);
                due("FIRST of " + a, x.end(a), v);
            }
            due("of no other", x.end(6), 0);
            due("once more", x.first(15, 3), 1);
            due("FIRST is the latest told", x.end(15), 3);
        }
        LoopLane x = puts(1);
        x.first(0, 40);
        x.reckon(1, 0, 1, 0, 4);
        x.run(1, false);
        due("80 in the first turn", x.end(1), 80);
        x.first(0, 50);
        due("the end of the run stays", x.end(1), 80);
        x.run(1, false);
        due("a new run has the new one", x.end(1), 100);
    }

    private static void firstRefused() {
        sentence("Promise 8", "BEYOND.");
        for (int a : new int[] {LEAST, -1, 4, 15, 16, MOST}) {
            refused("first(" + a + ", 1)", Checks::lived, y -> y.first(a, 1), BEYOND);
        }
        refused("act 16 of 16", Checks::full, y -> y.first(16, 1), BEYOND);
        refused("no acts", Checks::nothing, y -> y.first(0, 1), BEYOND);
    }

    private static void unit() {
        sentence("Promise 9", "Of a kind there are n UNITS: how many there were.");
        for (int kind = 0; kind <= 5; kind++) {
            LoopLane x = new LoopLane();
            int before = 1;
            for (int n : new int[] {0, 4, 4, 3, 0, 0, 1, 2}) {
                int k = kind;
                taken("unit(" + kind + ", " + n + ")", x, y -> y.unit(k, n), before);
                due("in all", x.count(4), 5 + n);
                before = n;
            }
        }
    }

    private static void unitRefused() {
        sentence("Promise 9", "BEYOND: no such kind; BELOW; NO: above 4.");
        for (int kind : new int[] {LEAST, -1, 6, MOST}) {
            refused("kind " + kind, Checks::lived, y -> y.unit(kind, 1), BEYOND);
            refused("kind " + kind + " and n -1", Checks::lived, y -> y.unit(kind, -1), BEYOND);
            refused("kind " + kind + " and n 5", Checks::lived, y -> y.unit(kind, 5), BEYOND);
        }
        for (int n : new int[] {LEAST, -2, -1}) {
            refused("n " + n, Checks::lived, y -> y.unit(5, n), BELOW);
        }
        for (int n : new int[] {5, 6, MOST}) {
            refused("n " + n, Checks::lived, y -> y.unit(0, n), NO);
        }
    }

    private static void edge() {
        sentence("Promise 10", "An EDGE is told: how many are told.");
        LoopLane x = puts(16);
        int[][] edges = {{0, 1, 0, 0}, {15, 0, 50, 4}, {3, 3, -50, 0}, {15, 15, -50, 4}, {0, 15, 50, 0}};
        for (int i = 0; i < edges.length; i++) {
            int[] e = edges[i];
            taken("edge", x, y -> y.edge(e[0], e[1], e[2], e[3]), i + 1);
            due("count(1)", x.count(1), i + 1);
            due("none of the body", x.count(2), 0);
        }
        x.undo();
        due("one that goes is not told any more", x.edge(0, 0, 0, 0), 3);
    }

    private static void edgeBeyond() {
        sentence("Promise 10", "BEYOND: no such ACTS;");
        for (int a : new int[] {LEAST, -1, 4, 15, 16, MOST}) {
            refused("a " + a, Checks::lived, y -> y.edge(a, 0, 0, 0), BEYOND);
            refused("b " + a, Checks::lived, y -> y.edge(0, a, 0, 0), BEYOND);
            refused("b " + a + ", and ticks", Checks::lived, y -> y.edge(0, a, 51, 5), BEYOND);
        }
        refused("no acts", Checks::nothing, y -> y.edge(0, 0, 0, 0), BEYOND);
        refused("act 16 of 16", Checks::full, y -> y.edge(15, 16, 0, 0), BEYOND);
    }

    private static void edgeNo() {
        sentence("Promise 10", "NO: TICKS not -50 .. 50, TURNS not 0 .. 4;");
        for (int ticks : new int[] {LEAST, -51, 51, MOST}) {
            refused("ticks " + ticks, Checks::lived, y -> y.edge(0, 1, ticks, 1), NO);
        }
        for (int turns : new int[] {LEAST, -1, 5, MOST}) {
            refused("turns " + turns, Checks::lived, y -> y.edge(0, 1, 0, turns), NO);
        }
        LoopLane x = puts(2);
        int told = 0;
        for (int ticks : new int[] {-50, -49, 49, 50}) {
            for (int turns = 0; turns <= 4; turns++) {
                told++;
                due("edge(0, 1, " + ticks + ", " + turns + ")", x.edge(0, 1, ticks, turns), told);
            }
        }
    }

    private static void fortyEdges(LoopLane x) {
        addPuts(x, 3);
        for (int i = 0; i < 40; i++) {
            x.edge(0, i < 39 ? 1 : 2, i, 4);
        }
        x.lay();
    }

    private static void edgeFull() {
        sentence("Promise 10", "FULL: there are 40.");
        LoopLane x = puts(2);
        for (int i = 1; i <= 40; i++) {
            taken("edge " + i, x, y -> y.edge(0, 1, 0, 0), i);
        }
        due("the 41st", x.edge(0, 1, 0, 0), FULL);
        due("there are 40", x.count(1), 40);
        refused("the 41st", Promises1To15Test::fortyEdges, y -> y.edge(1, 0, 1, 1), FULL);
        refused("NO ahead of FULL", Promises1To15Test::fortyEdges, y -> y.edge(1, 0, 51, 1), NO);
        refused("BEYOND ahead of FULL", Promises1To15Test::fortyEdges, y -> y.edge(3, 0, 0, 1), BEYOND);
        x = after(Promises1To15Test::fortyEdges);
        x.undo();
        due("one went with its act", x.edge(1, 0, 0, 1), 40);
        due("and there is no more room", x.edge(1, 0, 0, 1), FULL);
    }

    private static void undo() {
        sentence("Promise 11", "The latest ACT goes, with the told EDGES that have it: how many ACTS there are.");
        LoopLane x = puts(16);
        for (int n = 15; n >= 0; n--) {
            int left = n;
            taken("undo()", x, LoopLane::undo, left);
            due("count(0)", x.count(0), n);
            due("act " + n, x.act(n, 0), BEYOND);
        }
        x = puts(4);
        x.edge(3, 0, 1, 1);
        x.edge(0, 1, 40, 1);
        x.edge(0, 3, 2, 0);
        x.edge(1, 2, 30, 1);
        x.edge(3, 3, -1, 0);
        x.edge(2, 3, 0, 0);
        x.edge(2, 1, 7, 2);
        due("undo()", x.undo(), 3);
        due("4 edges went", x.count(1), 3);
        x.edge(0, 0, 5, 1);
        // of those that stay (1, 2, 30, 1) and (2, 1, 7, 2) are a ring of 37 ticks in 3 turns; act 1
        // begins 27 behind act 0 at least, act 2 17 .. 19 behind act 1
        due("lay()", x.lay(), 13);
        int[][] stay = {{0, 1, 40, 1}, {2, 1, 7, 2}, {1, 2, 30, 1}};
        int[][] begins = {{500, 526, 543}, {500, 527, 547}, {500, 527, 543}};
        for (int i = 0; i < 3; i++) {
            for (int a = 0; a < 3; a++) {
                x.forge(a, begins[i][a]);
            }
            due("check()", x.check(), 1);
            for (int what = 0; what < 4; what++) {
                due("edge " + i + ", wrong(" + what + ")", x.wrong(what), stay[i][what]);
            }
        }
        x = after(Checks::lived);
        due("a store goes", x.undo(), 3);
        due("with its edges of the body", x.count(2), 3);
        due("count(3)", x.count(3), 0);
    }

    private static void undoMissing() {
        sentence("Promise 11", "MISSING: there is none;");
        refused("a new object", Checks::nothing, LoopLane::undo, MISSING);
        LoopLane x = puts(1);
        due("one", x.undo(), 0);
        due("none", x.undo(), MISSING);
        due("none", x.count(0), 0);
    }

    /** Act 1 has act 2 as one of its operands, of turns before. */
    private static void takes(LoopLane x, int which) {
        x.put(1);
        switch (which) {
            case 0: x.reckon(1, 2, 1, 0, 0); break;
            case 1: x.reckon(1, 0, 0, 2, 4); break;
            case 2: x.fetch(0, 2, 1); break;
            case 3: x.store(0, 2, 1, 0, 0); break;
            case 4: x.store(0, 0, 0, 2, 1); break;
            default: x.pick(0, 0, 2, 1);
        }
        x.put(3);
    }

    private static void undoNo() {
        sentence("Promise 11", "NO: another one has it as an operand.");
        for (int which = 0; which <= 5; which++) {
            int operand = which;
            refused("operand " + which, y -> takes(y, operand), LoopLane::undo, NO);
            LoopLane x = after(y -> takes(y, operand));
            x.put(4);
            due("the one behind it goes", x.undo(), 3);
            due("it does not", x.undo(), NO);
        }
        LoopLane x = new LoopLane();
        due("its own", x.reckon(1, 0, 1, 0, 4), 0);
        due("is no other one's", x.undo(), 0);
        x.reckon(1, 1, 1, 0, 1);
        x.reckon(1, 1, 1, 1, 2);
        due("both its own and another's", x.undo(), NO);
        x = puts(1);
        x.reckon(1, 0, 0, 15, 1);
        due("it has others, which is in nobody's way", x.undo(), 1);
        due("nor is one that went", x.undo(), 0);
        x.reckon(1, 1, 1, 0, 1);
        x.put(1);
        due("act 0 has it as x", x.undo(), NO);
    }

    private static void act() {
        sentence("Promise 12", "Of ACT a: SORT (what = 0), LAG (1), UNIT kind (2), PATTERN (3), SLOT (4), x (5), dx (6), y (7), dy (8), z (9), dz (10), or NONE where it has none such.");
        LoopLane x = puts(1);
        x.reckon(1, 9, 1, 10, 2);
        x.reckon(2, 0, 0, 11, 3);
        x.reckon(3, 12, 4, 0, 0);
        x.fetch(0, 13, 2);
        x.store(7, 14, 3, 15, 4);
        x.pick(1, 2, 3, 4);
        for (int a = 0; a <= 6; a++) {
            x.works(a, a + 2, a % 6, 100 + a);
        }
        parts("put", x, 0, 0, 2, 0, 100, NONE, NONE, NONE, NONE, NONE, NONE, NONE);
        parts("sum", x, 1, 1, 3, 1, 101, NONE, 9, 1, 10, 2, NONE, NONE);
        parts("times", x, 2, 2, 4, 2, 102, NONE, 0, 0, 11, 3, NONE, NONE);
        parts("over", x, 3, 3, 5, 3, 103, NONE, 12, 4, 0, 0, NONE, NONE);
        parts("fetch", x, 4, 4, 6, 4, 104, 0, 13, 2, NONE, NONE, NONE, NONE);
        parts("store", x, 5, 5, 7, 5, 105, 7, 14, 3, 15, 4, NONE, NONE);
        parts("pick", x, 6, 6, 8, 0, 106, NONE, 1, 0, 2, 0, 3, 4);
        due("NONE is no refusal", x.again(), NOTHING);
    }

    private static void actRefused() {
        sentence("Promise 12", "BEYOND; NO: another what.");
        for (int a : new int[] {LEAST, -1, 4, 15, 16, MOST}) {
            refused("act(" + a + ", 0)", Checks::lived, y -> y.act(a, 0), BEYOND);
            refused("act(" + a + ", 11)", Checks::lived, y -> y.act(a, 11), BEYOND);
        }
        for (int what : new int[] {LEAST, -1, 11, MOST}) {
            refused("act(3, " + what + ")", Checks::lived, y -> y.act(3, what), NO);
        }
        refused("no acts", Checks::nothing, y -> y.act(0, 0), BEYOND);
        refused("act 16 of 16", Checks::full, y -> y.act(16, 0), BEYOND);
    }

    private static void number() {
        sentence("Promise 13", "The number that ACT a puts, taken for a PUT.");
        LoopLane x = puts(16);
        taken("number(0)", x, y -> y.number(0), 100);
        taken("number(15)", x, y -> y.number(15), 115);
        x = new LoopLane();
        x.put(-9);
        taken("a number that is also a refusal's", x, y -> y.number(0), -9);
    }

    private static void numberBeyond() {
        sentence("Promise 13", "BEYOND;");
        for (int a : new int[] {LEAST, -1, 4, 15, 16, MOST}) {
            refusedLong("number(" + a + ")", Checks::lived, y -> y.number(a), BEYOND);
        }
        refusedLong("no acts", Checks::nothing, y -> y.number(0), BEYOND);
        refusedLong("act 16 of 16", Checks::full, y -> y.number(16), BEYOND);
    }

    private static void sorts(LoopLane x) {
        addPuts(x, 1);
        for (int sort = 1; sort <= 3; sort++) {
            x.reckon(sort, 0, 0, 0, 0);
        }
        x.fetch(0, 0, 0);
        x.store(0, 0, 0, 0, 0);
        x.pick(0, 0, 0, 0);
    }

    private static void numberKind() {
        sentence("Promise 13", "KIND: it is none: 0L, and status() tells of it.");
        for (int a = 1; a <= 6; a++) {
            int act = a;
            refusedLong("sort " + a, Promises1To15Test::sorts, y -> y.number(act), KIND);
        }
        LoopLane x = puts(1);
        x.undo();
        x.reckon(1, 0, 1, 0, 1);
        due("in place of a put", x.number(0), 0);
        due("status(KIND)", x.status(KIND), 1);
    }

    private static void count() {
        sentence("Promise 14", "How many ACTS (what = 0), told EDGES (1), EDGES of the body, each as often as it comes (2), STORES (3), UNITS of all kinds (4).");
        LoopLane x = new LoopLane();
        for (int a = 0; a < 16; a++) {
            due("acts", x.count(0), a);
            due("stores", x.count(3), a);
            x.store(0, 0, 1, 0, 1);
        }
        due("16 acts", x.count(0), 16);
        due("16 stores", x.count(3), 16);
        // operands 32; of 120 pairs 2 each by the slot, 3 each by what may be refused; of each its own
        due("the most edges of a body", x.count(2), 32 + 240 + 360 + 16);
        for (int i = 1; i <= 40; i++) {
            x.edge(0, 1, 0, 0);
            due("told", x.count(1), i);
        }
        due("told ones are not of the body", x.count(2), 648);
        for (int kind = 0; kind < 6; kind++) {
            x.unit(kind, 4);
        }
        due("24 units", x.count(4), 24);
        for (int kind = 0; kind < 6; kind++) {
            x.unit(kind, 0);
        }
        due("no units", x.count(4), 0);
        x = puts(1);
        x.pick(0, 0, 0, 0);
        taken("the same edge three times", x, y -> y.count(2), 3);
    }

    private static void countNo() {
        sentence("Promise 14", "NO: another what.");
        for (int what : new int[] {LEAST, -1, 5, MOST}) {
            refused("count(" + what + ")", Checks::lived, y -> y.count(what), NO);
        }
    }

    private static void whole() {
        sentence("Promise 15", "Whether what the BODY takes is there: 1 if each operand is an ACT that stands, else 0.");
        due("no acts", new LoopLane().whole(), 1);
        due("no operands", puts(16).whole(), 1);
        for (int which = 0; which <= 5; which++) {
            LoopLane x = new LoopLane();
            takes(x, which);
            due("operand " + which + " stands", x.whole(), 1);
            x = new LoopLane();
            x.put(1);
            switch (which) {
                case 0: x.reckon(1, 2, 1, 0, 0); break;
                case 1: x.reckon(1, 0, 0, 2, 1); break;
                case 2: x.fetch(0, 2, 1); break;
                case 3: x.store(0, 2, 1, 0, 0); break;
                case 4: x.store(0, 0, 0, 2, 1); break;
                default: x.pick(0, 0, 2, 1);
            }
            taken("operand " + which + " does not stand", x, LoopLane::whole, 0);
            x.put(2);
            due("operand " + which + " stands now", x.whole(), 1);
        }
        LoopLane x = new LoopLane();
        x.reckon(1, 0, 1, 15, 1);
        for (int a = 1; a <= 15; a++) {
            due("act 15 does not stand", x.whole(), 0);
            x.put(a);
        }
        due("act 15 stands", x.whole(), 1);
        x = new LoopLane();
        x.reckon(1, 0, 1, 0, 4);
        due("its own", x.whole(), 1);
        x = new LoopLane();
        x.fetch(0, 1, 1);
        due("the x of act 0 does not stand", x.whole(), 0);
    }

    private static void unwhole(LoopLane x) {
        addPuts(x, 1);
        x.reckon(1, 0, 0, 2, 1);
    }

    private static void notWhole() {
        sentence("Promise 15", "(Without that it is not laid out, nor run.)");
        refused("lowest()", Promises1To15Test::unwhole, LoopLane::lowest, MISSING);
        refused("lay()", Promises1To15Test::unwhole, LoopLane::lay, MISSING);
        refused("prove(5)", Promises1To15Test::unwhole, x -> x.prove(5), MISSING);
        refused("run(1, false)", Promises1To15Test::unwhole, x -> x.run(1, false), MISSING);
        refused("run(0, false)", Promises1To15Test::unwhole, x -> x.run(0, false), MISSING);
        refused("run(1, true)", Promises1To15Test::unwhole, x -> x.run(1, true), MISSING);
        refused("compare(1)", Promises1To15Test::unwhole, x -> x.compare(1), MISSING);
        LoopLane x = after(Promises1To15Test::unwhole);
        x.put(1);
        due("lay()", x.lay(), 3);
        due("run(9, true)", x.run(9, true), 9);
    }
}
