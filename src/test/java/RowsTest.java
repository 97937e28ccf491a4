/** Promises 16 to 20: the rows. */
public final class RowsTest {
    private static final int MISSING = -2, BEYOND = -3, BELOW = -4, KIND = -5, COPY = -6, NO = -9;

    public static void main(String[] args) {
        rowsAreMade();
        rowsGo();
        longsAreSetAndGot();
        longsAreCopied();
        copiesAreRefusedInOrder();
        Due.finish("RowsTest");
    }

    private static void due(String call, long got, long want) {
        Due.due(call, got, want);
    }

    private static void rowsAreMade() {
        LoopLane x = new LoopLane();
        due("16: row", x.row(0, 40, true), 1);
        due("16: its last", x.get(0, 39), 0L);
        due("16: 1", x.row(7, 1, false), 1);
        due("16: slot ahead of n", x.row(8, -1, true), BEYOND);
        due("16: slot -1", x.row(-1, 1, true), BEYOND);
        due("16: n -1", x.row(0, -1, true), BELOW);
        due("16: n 0", x.row(0, 0, true), NO);
        due("16: n 41", x.row(0, 41, true), NO);
        x.set(0, 39, 5);
        due("16: refused it stays", x.get(0, 39), 5L);
        x.set(0, 2, 9);
        due("16: once more", x.row(0, 3, true), 1);
        due("16: with 0", x.get(0, 2), 0L);
        due("16: and shorter", x.set(0, 3, 1), BEYOND);
        x.row(0, 40, true);
        due("16: nothing of the old one", x.get(0, 39), 0L);
        due("16: ints in its place", x.row(0, 40, false), 1);
        due("16: are of another kind", x.set(0, 0, 1), KIND);
    }

    private static void rowsGo() {
        LoopLane x = new LoopLane();
        due("17: nothing", x.empty(3), 0);
        x.row(3, 2, true);
        due("17: longs", x.empty(3), 1);
        due("17: gone", x.empty(3), 0);
        due("17: gone", x.set(3, 0, 1), MISSING);
        x.row(3, 2, false);
        due("17: ints", x.empty(3), 1);
        due("17: slot 8", x.empty(8), BEYOND);
        due("17: slot -1", x.empty(-1), BEYOND);
    }

    private static void longsAreSetAndGot() {
        LoopLane x = new LoopLane();
        x.row(0, 3, true);
        x.row(1, 3, false);
        due("18: set", x.set(0, 2, Long.MIN_VALUE), 1);
        due("19: get", x.get(0, 2), Long.MIN_VALUE);
        due("19: the others", x.get(0, 1), 0L);
        int[][] refused = {{8, 0, BEYOND}, {-1, 0, BEYOND}, {2, 99, MISSING}, {1, 99, KIND}, {0, 3, BEYOND}, {0, -1, BEYOND}};
        for (int[] r : refused) {
            due("18: set(" + r[0] + ", " + r[1] + ", 1)", x.set(r[0], r[1], 1), r[2]);
            x.again();
            due("19: get(" + r[0] + ", " + r[1] + ")", x.get(r[0], r[1]), 0L);
            due("19: tells", x.again(), r[2]);
        }
        due("18, 19: counted", x.status(BEYOND), 8);
        due("18, 19: counted", x.status(MISSING), 2);
        due("18, 19: counted", x.status(KIND), 2);
    }

    private static void fill(LoopLane x, int s, int n) {
        x.row(s, n, true);
        for (int i = 0; i < n; i++) {
            x.set(s, i, 10 * s + i + 1);
        }
    }

    private static void row(LoopLane x, String name, int s, long... want) {
        for (int i = 0; i < want.length; i++) {
            due(name + ": get(" + s + ", " + i + ")", x.get(s, i), want[i]);
        }
    }

    private static void longsAreCopied() {
        LoopLane x = new LoopLane();
        fill(x, 0, 5);
        fill(x, 1, 3);
        due("20: to another", x.copy(0, 3, 1, 1, 2), 2);
        row(x, "20", 1, 11, 4, 5);
        due("20: to itself, on", x.copy(0, 0, 0, 1, 4), 4);
        row(x, "20", 0, 1, 1, 2, 3, 4);
        due("20: to itself, back", x.copy(0, 2, 0, 0, 3), 3);
        row(x, "20", 0, 2, 3, 4, 3, 4);
        due("20: none, at the end", x.copy(0, 5, 1, 3, 0), 0);
        due("20: all", x.copy(1, 0, 0, 2, 3), 3);
        row(x, "20", 0, 2, 3, 11, 4, 5);
    }

    private static void copiesAreRefusedInOrder() {
        LoopLane x = new LoopLane();
        fill(x, 0, 5);
        fill(x, 1, 3);
        x.row(2, 5, false);
        due("20: slot s", x.copy(8, 0, 3, 0, -1), BEYOND);
        due("20: slot t", x.copy(3, 0, -1, 0, -1), BEYOND);
        due("20: nothing in s", x.copy(3, 0, 2, 0, -1), MISSING);
        due("20: nothing in t, ints in s", x.copy(2, 0, 3, 0, -1), MISSING);
        due("20: ints in s", x.copy(2, 0, 0, 0, -1), KIND);
        due("20: ints in t", x.copy(0, 0, 2, 0, -1), KIND);
        due("20: n", x.copy(0, -1, 1, 0, -1), BELOW);
        due("20: i", x.copy(0, -1, 1, 0, 0), COPY);
        due("20: j", x.copy(0, 0, 1, -1, 0), COPY);
        due("20: i + n", x.copy(0, 4, 1, 0, 2), COPY);
        due("20: j + n", x.copy(0, 0, 1, 2, 2), COPY);
        due("20: i beyond, of none", x.copy(0, 6, 1, 0, 0), COPY);
        due("20: i + n goes round", x.copy(0, Integer.MAX_VALUE, 1, 0, 1), COPY);
        due("20: n is great", x.copy(0, 1, 1, 1, Integer.MAX_VALUE), COPY);
        row(x, "20: nothing changed", 0, 1, 2, 3, 4, 5);
        row(x, "20: nothing changed", 1, 11, 12, 13);
    }
}
