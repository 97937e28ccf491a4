/** Promises 16 to 20, sentence by sentence: the rows. */
public final class Promises16To20Test extends Checks {
    private static final int[] NO_SLOTS = {LEAST, -1, 8, MOST};

    public static void main(String[] args) {
        row();
        rowRefused();
        empty();
        emptyRefused();
        set();
        setRefused();
        get();
        copy();
        copyOntoItself();
        copyRefusedInOrder();
        copyOfNoPlaces();
        Due.finish("Promises16To20Test");
    }

    private static void row() {
        sentence("Promise 16", "SLOT s gets a ROW of n longs 0 (wide), or ints 0: 1.");
        for (int s = 0; s <= 7; s++) {
            for (int n : new int[] {1, 2, 39, 40}) {
                LoopLane x = new LoopLane();
                int slot = s;
                taken("row(" + s + ", " + n + ", true)", x, y -> y.row(slot, n, true), 1);
                for (int i = 0; i < n; i++) {
                    int place = i;
                    taken("a long 0 at " + i, x, y -> y.get(slot, place), 0);
                    due("set at " + i, x.set(s, i, 5), 1);
                }
                due("there are " + n, x.set(s, n, 5), BEYOND);
                due("once more", x.row(s, n, true), 1);
                for (int i = 0; i < n; i++) {
                    due("all are 0, at " + i, x.get(s, i), 0);
                }
                taken("row(" + s + ", " + n + ", false)", x, y -> y.row(slot, n, false), 1);
                due("of another kind", x.set(s, 0, 1), KIND);
            }
        }
        LoopLane x = new LoopLane();
        x.row(0, 40, true);
        x.row(1, 40, true);
        x.set(0, 39, 1);
        x.set(1, 0, 2);
        x.row(0, 3, true);
        due("a shorter one has no more places", x.set(0, 3, 1), BEYOND);
        x.row(0, 40, true);
        due("nothing comes back", x.get(0, 39), 0);
        due("the row of another slot stays", x.get(1, 0), 2);
    }

    private static void rowRefused() {
        sentence("Promise 16", "BEYOND; BELOW; NO: n is 0, or above 40.");
        for (int s : NO_SLOTS) {
            refused("slot " + s, Checks::lived, y -> y.row(s, 1, true), BEYOND);
            refused("slot " + s + " and n -1", Checks::lived, y -> y.row(s, -1, true), BEYOND);
            refused("slot " + s + " and n 41", Checks::lived, y -> y.row(s, 41, false), BEYOND);
        }
        for (int i = 0; i <= 1; i++) {
            boolean wide = i == 1;
            for (int n : new int[] {LEAST, -2, -1}) {
                refused("n " + n, Checks::lived, y -> y.row(0, n, wide), BELOW);
            }
            for (int n : new int[] {0, 41, 42, MOST}) {
                refused("n " + n, Checks::lived, y -> y.row(7, n, wide), NO);
            }
        }
    }

    private static void empty() {
        sentence("Promise 17", "SLOT s has nothing any more: 1 if it had something, else 0.");
        for (int s = 0; s <= 7; s++) {
            LoopLane x = new LoopLane();
            int slot = s;
            taken("nothing", x, y -> y.empty(slot), 0);
            x.row(s, 1, true);
            taken("a long", x, y -> y.empty(slot), 1);
            taken("nothing any more", x, y -> y.empty(slot), 0);
            due("nothing any more", x.set(s, 0, 1), MISSING);
            x.row(s, 40, false);
            taken("ints", x, y -> y.empty(slot), 1);
            due("nothing any more", x.set(s, 0, 1), MISSING);
        }
        LoopLane x = new LoopLane();
        x.row(0, 4, true);
        x.row(1, 4, true);
        x.set(0, 1, 9);
        x.empty(0);
        due("the other one stays", x.set(1, 3, 1), 1);
        x.row(0, 4, true);
        due("nothing comes back", x.get(0, 1), 0);
    }

    private static void emptyRefused() {
        sentence("Promise 17", "BEYOND.");
        for (int s : NO_SLOTS) {
            refused("empty(" + s + ")", Checks::lived, y -> y.empty(s), BEYOND);
        }
    }

    private static void set() {
        sentence("Promise 18", "LONG i of SLOT s becomes v: 1.");
        for (int s = 0; s <= 7; s++) {
            for (int i : new int[] {0, 1, 38, 39}) {
                LoopLane x = new LoopLane();
                x.row(s, 40, true);
                int slot = s;
                for (long v : new long[] {Long.MIN_VALUE, -1, 0, 1, Long.MAX_VALUE}) {
                    taken("set(" + s + ", " + i + ", " + v + ")", x, y -> y.set(slot, i, v), 1);
                    due("get", x.get(s, i), v);
                }
                for (int other = 0; other < 40; other++) {
                    due("the others stay", x.get(s, other), other == i ? Long.MAX_VALUE : 0);
                }
            }
        }
    }

    private static void setRefused() {
        sentence("Promise 18", "BEYOND (no such SLOT), MISSING, KIND, BEYOND (no such place), in this order.");
        for (int i : new int[] {0, -1, 99}) {
            for (int s : NO_SLOTS) {
                refused("set(" + s + ", " + i + ", 1)", Checks::lived, y -> y.set(s, i, 1), BEYOND);
            }
            refused("nothing, place " + i, Checks::lived, y -> y.set(2, i, 1), MISSING);
            refused("ints, place " + i, Checks::lived, y -> y.set(1, i, 1), KIND);
        }
        for (int i : new int[] {LEAST, -1, 5, 6, 40, MOST}) {
            refused("place " + i + " of 5", Checks::lived, y -> y.set(0, i, 1), BEYOND);
        }
        LoopLane x = after(Checks::lived);
        due("place 0 of 5", x.set(0, 0, 1), 1);
        due("place 4 of 5", x.set(0, 4, 1), 1);
    }

    private static void get() {
        sentence("Promise 19", "LONG i of SLOT s; 0L where that is refused, as by set().");
        LoopLane x = new LoopLane();
        for (int s = 0; s <= 7; s++) {
            x.row(s, 40, true);
            x.set(s, 0, 100 * s + 1);
            x.set(s, 39, -100 * s - 2);
        }
        for (int s = 0; s <= 7; s++) {
            int slot = s;
            taken("get(" + s + ", 0)", x, y -> y.get(slot, 0), 100 * s + 1);
            taken("get(" + s + ", 39)", x, y -> y.get(slot, 39), -100 * s - 2);
        }
        for (int i : new int[] {0, -1, 99}) {
            for (int s : NO_SLOTS) {
                refusedLong("get(" + s + ", " + i + ")", Checks::lived, y -> y.get(s, i), BEYOND);
            }
            refusedLong("nothing, place " + i, Checks::lived, y -> y.get(2, i), MISSING);
            refusedLong("ints, place " + i, Checks::lived, y -> y.get(1, i), KIND);
        }
        for (int i : new int[] {LEAST, -1, 5, 6, 40, MOST}) {
            refusedLong("place " + i + " of 5", Checks::lived, y -> y.get(0, i), BEYOND);
        }
        x.set(0, 0, 5);
        x.row(0, 40, false);
        due("ints in the place of longs", x.get(0, 0), 0);
        due("are of another kind", x.again(), KIND);
    }

    /** Slot s has n longs, 10 * (s + 1) and on. */
    private static void fill(LoopLane x, int s, int n) {
        x.row(s, n, true);
        for (int i = 0; i < n; i++) {
            x.set(s, i, 10 * (s + 1) + i);
        }
    }

    private static void longs(String name, LoopLane x, int s, long... want) {
        for (int i = 0; i < want.length; i++) {
            due(name + ", get(" + s + ", " + i + ")", x.get(s, i), want[i]);
        }
        due(name + ", no more", x.set(s, want.length, 1), BEYOND);
    }

    private static LoopLane two() {
        LoopLane x = new LoopLane();
        fill(x, 0, 5);
        fill(x, 1, 3);
        return x;
    }

    private static void copy() {
        sentence("Promise 20", "n LONGS of SLOT s, from place i on, come to SLOT t, from place j on");
        LoopLane x = two();
        taken("all of t", x, y -> y.copy(0, 2, 1, 0, 3), 3);
        longs("all of t", x, 1, 12, 13, 14);
        longs("s stays", x, 0, 10, 11, 12, 13, 14);
        x = two();
        taken("one, the last to the last", x, y -> y.copy(0, 4, 1, 2, 1), 1);
        longs("one", x, 1, 20, 21, 14);
        x = two();
        taken("all of s", x, y -> y.copy(1, 0, 0, 1, 3), 3);
        longs("all of s", x, 0, 10, 20, 21, 22, 14);
        x = two();
        taken("none", x, y -> y.copy(0, 0, 1, 0, 0), 0);
        taken("none, at the end of both", x, y -> y.copy(0, 5, 1, 3, 0), 0);
        longs("none", x, 0, 10, 11, 12, 13, 14);
        longs("none", x, 1, 20, 21, 22);
        fill(x, 7, 40);
        fill(x, 6, 40);
        taken("40", x, y -> y.copy(7, 0, 6, 0, 40), 40);
        due("40, the last", x.get(6, 39), 80 + 39);
        due("40, the first", x.get(6, 0), 80);
    }

    private static void copyOntoItself() {
        sentence("Promise 20", "(as they were, if s is t): n.");
        LoopLane x = two();
        taken("one place on", x, y -> y.copy(0, 0, 0, 1, 4), 4);
        longs("one place on", x, 0, 10, 10, 11, 12, 13);
        x = two();
        taken("one place back", x, y -> y.copy(0, 1, 0, 0, 4), 4);
        longs("one place back", x, 0, 11, 12, 13, 14, 14);
        x = two();
        taken("two places on", x, y -> y.copy(0, 0, 0, 2, 3), 3);
        longs("two places on", x, 0, 10, 11, 10, 11, 12);
        x = two();
        taken("where it is", x, y -> y.copy(0, 0, 0, 0, 5), 5);
        longs("where it is", x, 0, 10, 11, 12, 13, 14);
        refused("onto itself, one too many", Checks::lived, y -> y.copy(0, 0, 0, 1, 5), COPY);
    }

    private static void copyRefusedInOrder() {
        sentence("Promise 20", "BEYOND (a SLOT), MISSING (s, then t), KIND (s, then t), BELOW: n;");
        for (int s : NO_SLOTS) {
            refused("s " + s, Checks::lived, y -> y.copy(s, 0, 0, 0, 1), BEYOND);
            refused("t " + s, Checks::lived, y -> y.copy(0, 0, s, 0, 1), BEYOND);
            refused("s " + s + ", nothing in t", Checks::lived, y -> y.copy(s, 0, 2, 0, 1), BEYOND);
            refused("t " + s + ", nothing in s", Checks::lived, y -> y.copy(2, 0, s, 0, -1), BEYOND);
        }
        refused("nothing in s", Checks::lived, y -> y.copy(2, 0, 0, 0, 1), MISSING);
        refused("nothing in t", Checks::lived, y -> y.copy(0, 0, 2, 0, 1), MISSING);
        refused("nothing in both", Checks::lived, y -> y.copy(2, 0, 3, 0, 1), MISSING);
        refused("nothing in s, ints in t", Checks::lived, y -> y.copy(2, 0, 1, 0, -1), MISSING);
        refused("ints in s, nothing in t", Checks::lived, y -> y.copy(1, 0, 2, 0, -1), MISSING);
        refused("ints in s", Checks::lived, y -> y.copy(1, 0, 0, 0, 1), KIND);
        refused("ints in t", Checks::lived, y -> y.copy(0, 0, 1, 0, 1), KIND);
        refused("ints in both", Checks::lived, y -> y.copy(1, 0, 1, 0, -1), KIND);
        refused("ints in s, n -1, no such place", Checks::lived, y -> y.copy(1, -1, 0, 0, -1), KIND);
        refused("ints in t, none of them", Checks::lived, y -> y.copy(0, 0, 1, 0, 0), KIND);
        for (int n : new int[] {LEAST, -2, -1}) {
            refused("n " + n, Checks::lived, y -> y.copy(0, 0, 7, 0, n), BELOW);
            refused("n " + n + ", no such place", Checks::lived, y -> y.copy(0, -1, 7, 3, n), BELOW);
        }
    }

    /** Slot 0 has 5 longs, slot 7 has 2. */
    private static void copyOfNoPlaces() {
        sentence("Promise 20", "COPY: a place that there is not (i or j below 0, i + n or j + n above how many there are).");
        int[][] refused = {{-1, 0, 0}, {-1, 0, 1}, {0, -1, 0}, {0, -1, 1}, {LEAST, 0, 0}, {0, LEAST, 0},
            {4, 0, 2}, {5, 0, 1}, {6, 0, 0}, {0, 1, 2}, {0, 2, 1}, {0, 3, 0}, {0, 0, 3}, {0, 0, MOST},
            {MOST, 0, 0}, {0, MOST, 0}, {MOST, 0, 1}, {0, MOST, 1}, {MOST, MOST, MOST}, {1, 1, MOST}};
        for (int[] r : refused) {
            refused("copy(0, " + r[0] + ", 7, " + r[1] + ", " + r[2] + ")", Checks::lived,
                    y -> y.copy(0, r[0], 7, r[1], r[2]), COPY);
        }
        int[][] taken = {{3, 0, 2}, {4, 1, 1}, {5, 2, 0}, {0, 2, 0}, {5, 0, 0}, {0, 0, 2}};
        for (int[] t : taken) {
            LoopLane x = after(Checks::lived);
            taken("copy(0, " + t[0] + ", 7, " + t[1] + ", " + t[2] + ")", x,
                    y -> y.copy(0, t[0], 7, t[1], t[2]), t[2]);
        }
    }
}
