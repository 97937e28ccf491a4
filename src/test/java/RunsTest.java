/** Promises 33 to 36: runs. */
public final class RunsTest {
    private static final int NONE = -1, MISSING = -2, BEYOND = -3, BELOW = -4, KIND = -5, ZERO = -8, NO = -9;

    public static void main(String[] args) {
        sortsComeToTheirEnds();
        endsOfTurnsBefore();
        rowsRefuseInOrder();
        runsAreRefused();
        plainEndsAtTheFirstRefusal();
        laidGoesOnAhead();
        laidTellsTheFirstInOrder();
        fewTurnsArePlain();
        compareTellsNothing();
        toldBefore();
        Due.finish("RunsTest");
    }

    private static void due(String call, long got, long want) {
        Due.due(call, got, want);
    }

    private static void told(LoopLane x, String name, int... want) {
        for (int what = 0; what < want.length; what++) {
            due(name + ": told(" + what + ")", x.told(what), want[what]);
        }
    }

    private static long reckoned(int sort, long left, long right) {
        LoopLane x = new LoopLane();
        x.put(left);
        x.put(right);
        x.reckon(sort, 0, 0, 1, 0);
        x.run(1, false);
        return x.end(2);
    }

    private static void sortsComeToTheirEnds() {
        due("4: sum wraps", reckoned(1, Long.MAX_VALUE, 2), Long.MIN_VALUE + 1);
        due("4: times wraps", reckoned(2, Long.MIN_VALUE, -1), Long.MIN_VALUE);
        due("4: times", reckoned(2, -6, 7), -42);
        due("4: over is cut towards 0", reckoned(3, -7, 2), -3);
        due("4: over", reckoned(3, 7, -2), -3);
        due("4: over wraps", reckoned(3, Long.MIN_VALUE, -1), Long.MIN_VALUE);
        LoopLane x = new LoopLane();
        x.row(2, 3, true);
        x.set(2, 1, 50);
        x.put(1);
        x.put(9);
        x.fetch(2, 0, 0);
        x.store(2, 0, 0, 1, 0);
        x.fetch(2, 0, 0);
        x.put(0);
        x.pick(5, 0, 1, 0);
        x.pick(1, 0, 1, 0);
        due("33: turns", x.run(1, false), 1);
        due("36: fetch", x.end(2), 50);
        due("36: store: what was there", x.end(3), 50);
        due("36: fetch behind it", x.end(4), 9);
        due("36: pick of 0", x.end(6), 9);
        due("36: pick of another", x.end(7), 1);
        due("33: the row has changed", x.get(2, 1), 9);
        told(x, "35", 0, NONE, NONE, 8, 8, 0);
        x.works(2, 5, 0, 1);
        due("33: from rows as they are", x.run(2, false), 2);
        due("36: fetch", x.end(2), 9);
        told(x, "35: lags", 0, NONE, NONE, 16, 24, 0);
    }

    private static void endsOfTurnsBefore() {
        LoopLane x = new LoopLane();
        x.put(1);
        x.reckon(1, 0, 0, 1, 1);
        x.reckon(1, 1, 4, 3, 2);
        x.reckon(2, 1, 0, 1, 0);
        x.first(1, 100);
        x.first(3, -5);
        due("33: 1", x.run(1, false), 1);
        due("36: counts from its FIRST", x.end(1), 101);
        due("36: FIRSTS", x.end(2), 95);
        due("33: 3", x.run(3, false), 3);
        due("36: FIRST of 4 before, and the first turn", x.end(2), 100 + 101 * 101);
        due("33: 5", x.run(5, false), 5);
        due("36: the first turn and the third", x.end(2), 101 + 103 * 103);
        due("22: lay", x.lay(), 4);
        due("33: 5", x.run(5, true), 5);
        due("36: as plain", x.end(2), 101 + 103 * 103);
        due("33: 0", x.run(0, false), 0);
        due("36: FIRST if there is none", x.end(1), 100);
        x.first(1, 7);
        due("36: FIRST as it is", x.end(1), 7);
        due("36: no act", x.end(4), 0L);
        due("36: tells", x.again(), BEYOND);
        due("36: no act", x.end(-1), 0L);
        due("36: counted", x.status(BEYOND), 2);
    }

    private static void rowsRefuseInOrder() {
        for (int sort = 4; sort <= 5; sort++) {
            LoopLane x = new LoopLane();
            x.put(1L << 32);
            if (sort == 4) {
                x.fetch(3, 0, 0);
            } else {
                x.store(3, 0, 0, 0, 0);
            }
            x.run(1, false);
            told(x, "35: nothing there", MISSING, 1, 0, 2, 2, 0);
            x.row(3, 4, false);
            x.run(1, false);
            told(x, "35: ints", KIND, 1, 0, 2, 2, 0);
            x.row(3, 4, true);
            x.run(1, false);
            told(x, "35: 2 to the 32nd is no place", BEYOND, 1, 0, 2, 2, 0);
            due("37: the calls are not refused", x.again(), -7);
        }
    }

    private static void runsAreRefused() {
        LoopLane x = new LoopLane();
        due("33: no acts, ahead of n", x.run(-1, false), MISSING);
        due("34: no acts", x.compare(300), MISSING);
        x.put(1);
        due("33: no laying, ahead of n", x.run(-1, true), MISSING);
        due("34: no laying, ahead of n", x.compare(-1), MISSING);
        due("33: below", x.run(-1, false), BELOW);
        due("33: above", x.run(201, false), NO);
        due("33: 200", x.run(200, false), 200);
        x.lay();
        due("33: below", x.run(-1, true), BELOW);
        due("33: above", x.run(201, true), NO);
        due("34: below", x.compare(-1), BELOW);
        due("34: above", x.compare(201), NO);
        due("33: 200", x.run(200, true), 200);
        due("34: 200", x.compare(200), 1);
        x.reckon(1, 2, 1, 0, 0);
        due("33: not whole", x.run(1, false), MISSING);
    }

    private static LoopLane walker(int places) {
        LoopLane x = new LoopLane();
        x.row(0, places, true);
        x.put(1);
        x.reckon(1, 0, 0, 1, 1);
        x.fetch(0, 1, 0);
        x.first(1, -1);
        return x;
    }

    private static void plainEndsAtTheFirstRefusal() {
        LoopLane x = walker(5);
        x.store(0, 1, 0, 1, 0);
        x.reckon(1, 1, 0, 1, 0);
        due("33: 5 places", x.run(9, false), 5);
        told(x, "35", BEYOND, 2, 5, 5 * 5 + 3, 5 * 5 + 3, 0);
        due("36: of the last whole turn", x.end(1), 4);
        due("36: of the last whole turn", x.end(4), 8);
        due("33: what was done stays", x.get(0, 4), 4);
    }

    private static void laidGoesOnAhead() {
        LoopLane x = walker(5);
        x.works(2, 1, 1, 1);
        x.store(1, 1, 0, 1, 0);
        x.works(3, 1, 2, 1);
        x.row(1, 40, true);
        x.put(0);
        x.works(4, 1, 3, 1);
        due("22: lay", x.lay(), 2);
        // acts 0 and 1 at 0 and 1, act 2 at 0 of stage 1, act 3 at 0 of stage 2, act 4 at 0
        due("26: act 2", x.tick(2, 2), 2);
        due("26: act 3", x.tick(3, 2), 4);
        due("26: act 4", x.tick(4, 2), 0);
        due("33: 5 places", x.run(9, true), 5);
        // the fetch of turn 5 is refused at tick 12, where act 0 of turn 6 has begun already; act 3
        // of turn 4 stands ahead and begins then, act 4 of turn 6 stands behind and does not
        told(x, "35", BEYOND, 2, 5, 7 + 6 + 6 + 5 + 6, 13, 1);
        due("36: the last whole turn is still there", x.end(1), 4);
        due("36: the last whole turn is still there", x.end(3), 0);
        due("33: the store behind it was not made", x.get(1, 5), 0);
        due("33: the store ahead of it was", x.get(1, 4), 4);
        due("34: as plain", x.compare(9), 1);
        for (int i = 0; i < 40; i++) {
            due("34: the rows stay", x.get(1, i), i < 5 ? i : 0);
        }
    }

    /** Act 1 is refused at a later tick than act 3 of the same turn, and stands ahead of it. */
    private static void laidTellsTheFirstInOrder() {
        LoopLane x = new LoopLane();
        x.put(0);
        x.reckon(3, 0, 0, 0, 0);
        x.put(4);
        x.fetch(0, 2, 0);
        x.put(5);
        for (int a = 0; a < 5; a++) {
            x.works(a, 1, a, 1);
        }
        x.edge(0, 1, 3, 0);
        x.edge(4, 4, 2, 1);
        due("22: lay", x.lay(), 2);
        due("26: act 1", x.tick(1, 2), 4);
        due("26: act 3", x.tick(3, 2), 2);
        due("33: none", x.run(6, true), 0);
        // tick 0: 0, 2, 4; tick 2: 0, 2 of turn 1, then 3 is refused, and what stands behind it does
        // not begin any more, but act 1 at tick 4 does
        told(x, "35", ZERO, 1, 0, 7, 5, 1);
        due("36: FIRST", x.end(4), 0);
        due("34: as plain", x.compare(6), 1);
        due("33: plain", x.run(6, false), 0);
        told(x, "35", ZERO, 1, 0, 2, 2, 0);
    }

    private static void fewTurnsArePlain() {
        LoopLane x = walker(40);
        for (int a = 0; a < 3; a++) {
            x.works(a, 2, a, 1);
        }
        due("22: lay", x.lay(), 2);
        due("25: stages", x.laying(1), 3);
        due("33: below the stages", x.run(2, true), 2);
        told(x, "35", 0, NONE, NONE, 6, 12, 0);
        due("33: as many", x.run(3, true), 3);
        told(x, "35", 0, NONE, NONE, 9, 4 + 2 * 2 + 1, 1);
        due("33: none", x.run(0, true), 0);
        told(x, "35", 0, NONE, NONE, 0, 0, 0);
        due("34: none", x.compare(0), 1);
    }

    private static void compareTellsNothing() {
        LoopLane x = walker(4);
        x.store(0, 1, 0, 0, 0);
        x.lay();
        due("34: refused in both", x.compare(9), 1);
        told(x, "34: nothing is told", 0, NONE, NONE, 0, 0, 0);
        due("34: nor ends", x.end(1), -1);
        due("34: the rows stay", x.get(0, 0), 0);
        x.run(2, true);
        x.compare(9);
        due("34: of run()", x.told(3), 8);
        due("34: of run()", x.end(1), 1);
        due("34: the rows stay", x.get(0, 1), 1);
        due("34: the rows stay", x.get(0, 2), 0);
    }

    private static void toldBefore() {
        LoopLane x = new LoopLane();
        told(x, "35: before", 0, NONE, NONE, 0, 0, 0);
        due("35: another", x.told(6), NO);
        due("35: another", x.told(-1), NO);
    }
}
