/** Promises 1 to 15: the body. */
public final class BodyTest {
    private static final int NONE = -1, MISSING = -2, BEYOND = -3, BELOW = -4, KIND = -5, NO = -9, FULL = -10;

    public static void main(String[] args) {
        newObject();
        putIsAnAct();
        reckonTakesTwo();
        fetchTakesAPlace();
        storeTakesAPlaceAndAValue();
        pickTakesThree();
        noMoreThanSixteen();
        worksTellsUnits();
        firstIsTold();
        unitsAreCounted();
        edgesAreTold();
        undoTakesTheLatest();
        numberIsOfAPut();
        countsAreRight();
        wholeNeedsAllOperands();
        changesTakeTheLayingAway();
        Due.finish("BodyTest");
    }

    private static void due(String call, long got, long want) {
        Due.due(call, got, want);
    }

    private static void acts(LoopLane x, String name, int a, int... want) {
        for (int what = 0; what < want.length; what++) {
            due(name + ": act(" + a + ", " + what + ")", x.act(a, what), want[what]);
        }
    }

    private static LoopLane puts(int n) {
        LoopLane x = new LoopLane();
        for (int i = 0; i < n; i++) {
            x.put(i);
        }
        return x;
    }

    private static void newObject() {
        LoopLane x = new LoopLane();
        due("1: acts", x.count(0), 0);
        due("1: told edges", x.count(1), 0);
        due("1: edges of the body", x.count(2), 0);
        due("1: stores", x.count(3), 0);
        due("1: units", x.count(4), 6);
        for (int kind = 0; kind < 6; kind++) {
            due("1: unit(" + kind + ", 1)", x.unit(kind, 1), 1);
        }
        for (int s = 0; s < 8; s++) {
            due("1: empty(" + s + ")", x.empty(s), 0);
        }
        due("1: laying(0)", x.laying(0), MISSING);
        due("1: trials()", x.trials(), 0);
        due("1: whole()", x.whole(), 1);
        for (int what = 0; what < 6; what++) {
            due("1: wrong(" + what + ")", x.wrong(what), NONE);
            due("1: told(" + what + ")", x.told(what), what == 1 || what == 2 ? NONE : 0);
        }
    }

    private static void putIsAnAct() {
        LoopLane x = new LoopLane();
        due("2: put", x.put(Long.MIN_VALUE), 0);
        due("2: put", x.put(-7L), 1);
        acts(x, "2", 1, 0, 1, 0, 1, NONE, NONE, NONE, NONE, NONE, NONE, NONE);
        due("2: number(0)", x.number(0), Long.MIN_VALUE);
        due("2: end(1) is FIRST", x.end(1), 0L);
    }

    private static void reckonTakesTwo() {
        LoopLane x = puts(2);
        due("3: sum", x.reckon(1, 0, 0, 1, 0), 2);
        due("3: times, of itself before", x.reckon(2, 3, 4, 1, 0), 3);
        due("3: over, of one that does not stand", x.reckon(3, 15, 1, 0, 4), 4);
        acts(x, "3", 3, 2, 1, 0, 1, NONE, 3, 4, 1, 0, NONE, NONE);
        acts(x, "3", 4, 3, 1, 0, 1, NONE, 15, 1, 0, 4, NONE, NONE);
        due("3: sort 0", x.reckon(0, 0, 0, 1, 0), NO);
        due("3: sort 4", x.reckon(4, 0, 0, 1, 0), NO);
        due("3: turns -1", x.reckon(1, 0, -1, 1, 0), NO);
        due("3: turns 5", x.reckon(1, 0, 0, 1, 5), NO);
        due("3: NO is looked at first", x.reckon(1, 16, 0, 1, 5), NO);
        due("3: itself of this turn", x.reckon(1, 5, 0, 1, 0), BEYOND);
        due("3: a later one of this turn", x.reckon(1, 0, 0, 6, 0), BEYOND);
        due("3: x -1", x.reckon(1, -1, 1, 0, 0), BEYOND);
        due("3: y 16", x.reckon(1, 0, 0, 16, 1), BEYOND);
        due("3: nothing came", x.count(0), 5);
    }

    private static void fetchTakesAPlace() {
        LoopLane x = puts(1);
        due("4: fetch", x.fetch(7, 0, 0), 1);
        due("4: fetch", x.fetch(0, 9, 2), 2);
        acts(x, "4", 1, 4, 1, 0, 1, 7, 0, 0, NONE, NONE, NONE, NONE);
        acts(x, "4", 2, 4, 1, 0, 1, 0, 9, 2, NONE, NONE, NONE, NONE);
        due("4: turns ahead of slot", x.fetch(8, 0, 5), NO);
        due("4: turns", x.fetch(0, 0, -1), NO);
        due("4: slot 8", x.fetch(8, 0, 0), BEYOND);
        due("4: slot -1", x.fetch(-1, 0, 0), BEYOND);
        due("4: x", x.fetch(0, 3, 0), BEYOND);
        due("4: x", x.fetch(0, 16, 1), BEYOND);
    }

    private static void storeTakesAPlaceAndAValue() {
        LoopLane x = puts(1);
        due("5: store", x.store(3, 0, 0, 1, 4), 1);
        acts(x, "5", 1, 5, 1, 0, 1, 3, 0, 0, 1, 4, NONE, NONE);
        due("5: turns of x", x.store(8, 0, 5, 0, 0), NO);
        due("5: turns of y", x.store(0, 0, 0, 0, -1), NO);
        due("5: slot", x.store(8, 0, 0, 0, 0), BEYOND);
        due("5: x", x.store(0, 2, 0, 0, 0), BEYOND);
        due("5: y", x.store(0, 0, 0, -1, 1), BEYOND);
    }

    private static void pickTakesThree() {
        LoopLane x = puts(2);
        due("6: pick", x.pick(0, 1, 2, 3), 2);
        due("6: pick", x.pick(1, 0, 2, 0), 3);
        acts(x, "6", 2, 6, 1, 0, 1, NONE, 0, 0, 1, 0, 2, 3);
        due("6: turns", x.pick(9, 0, 0, 5), NO);
        due("6: turns", x.pick(0, 0, 0, -1), NO);
        due("6: x", x.pick(4, 0, 0, 1), BEYOND);
        due("6: y", x.pick(0, 4, 0, 1), BEYOND);
        due("6: z of this turn", x.pick(0, 0, 4, 0), BEYOND);
        due("6: z", x.pick(0, 0, 16, 1), BEYOND);
    }

    private static void noMoreThanSixteen() {
        LoopLane x = puts(16);
        due("2: the 17th", x.put(1), FULL);
        due("3: the 17th", x.reckon(1, 0, 0, 15, 0), FULL);
        due("4: the 17th", x.fetch(0, 0, 0), FULL);
        due("5: the 17th", x.store(0, 0, 0, 15, 0), FULL);
        due("6: the 17th", x.pick(0, 0, 15, 0), FULL);
        due("3: BEYOND ahead of FULL", x.reckon(1, 16, 0, 0, 0), BEYOND);
        due("4: BEYOND ahead of FULL", x.fetch(-1, 0, 0), BEYOND);
        due("3: NO ahead of FULL", x.reckon(9, 0, 0, 0, 0), NO);
        due("6: NO ahead of FULL", x.pick(0, 0, 0, 5), NO);
        due("2: still 16", x.count(0), 16);
        due("11: one goes", x.undo(), 15);
        due("2: one comes", x.put(1), 15);
    }

    private static void worksTellsUnits() {
        LoopLane x = puts(1);
        due("7: works", x.works(0, 12, 5, 255), 1);
        acts(x, "7", 0, 0, 12, 5, 255);
        due("7: act", x.works(1, 1, 0, 1), BEYOND);
        due("7: act -1", x.works(-1, 1, 0, 1), BEYOND);
        due("7: kind 6 ahead of lag", x.works(0, 0, 6, 1), BEYOND);
        due("7: kind -1", x.works(0, 1, -1, 1), BEYOND);
        due("7: lag 0", x.works(0, 0, 0, 1), NO);
        due("7: lag 13", x.works(0, 13, 0, 1), NO);
        due("7: pattern 0", x.works(0, 1, 0, 0), NO);
        due("7: pattern 256", x.works(0, 1, 0, 256), NO);
        acts(x, "7: nothing changed", 0, 0, 12, 5, 255);
        due("7: the lowest bit may be 0", x.works(0, 1, 0, 2), 1);
        x.undo();
        x.put(3);
        acts(x, "7: a new act is as put", 0, 0, 1, 0, 1);
    }

    private static void firstIsTold() {
        LoopLane x = puts(1);
        due("8: first", x.first(0, Long.MAX_VALUE), 1);
        due("8: end is FIRST", x.end(0), Long.MAX_VALUE);
        due("8: no act", x.first(1, 1), BEYOND);
        due("8: no act", x.first(-1, 1), BEYOND);
        x.undo();
        x.put(1);
        due("8: a new act has 0", x.end(0), 0L);
        x.lay();
        x.run(3, false);
        x.first(0, 5);
        due("8: the laying stays", x.laying(0), 1);
        due("8: what was told stays", x.told(3), 3);
        due("8: and the end", x.end(0), 1L);
    }

    private static void unitsAreCounted() {
        LoopLane x = new LoopLane();
        due("9: unit", x.unit(5, 4), 1);
        due("9: unit", x.unit(5, 0), 4);
        due("9: unit", x.unit(5, 2), 0);
        due("9: all", x.count(4), 7);
        due("9: kind 6 ahead of n", x.unit(6, -1), BEYOND);
        due("9: kind -1", x.unit(-1, 1), BEYOND);
        due("9: n -1", x.unit(0, -1), BELOW);
        due("9: n 5", x.unit(0, 5), NO);
        due("9: all", x.count(4), 7);
    }

    private static void edgesAreTold() {
        LoopLane x = puts(2);
        due("10: edge", x.edge(0, 1, 50, 4), 1);
        due("10: edge", x.edge(1, 1, -50, 0), 2);
        due("10: a", x.edge(2, 0, 51, 0), BEYOND);
        due("10: b", x.edge(0, -1, 0, 0), BEYOND);
        due("10: ticks 51", x.edge(0, 0, 51, 0), NO);
        due("10: ticks -51", x.edge(0, 0, -51, 0), NO);
        due("10: turns -1", x.edge(0, 0, 0, -1), NO);
        due("10: turns 5", x.edge(0, 0, 0, 5), NO);
        for (int i = 3; i <= 40; i++) {
            due("10: edge " + i, x.edge(0, 1, 0, 1), i);
        }
        due("10: the 41st", x.edge(0, 1, 0, 1), FULL);
        due("10: NO ahead of FULL", x.edge(0, 1, 0, 5), NO);
        due("10: BEYOND ahead of FULL", x.edge(0, 2, 0, 0), BEYOND);
        due("10: 40", x.count(1), 40);
    }

    private static void undoTakesTheLatest() {
        LoopLane x = new LoopLane();
        due("11: none", x.undo(), MISSING);
        x.put(1);
        x.reckon(1, 0, 0, 2, 1);
        x.put(2);
        due("11: another has it", x.undo(), NO);
        due("11: it stays", x.count(0), 3);
        x.reckon(1, 3, 1, 3, 2);
        x.edge(0, 3, 1, 0);
        x.edge(0, 1, 1, 0);
        x.edge(3, 1, 1, 1);
        x.edge(1, 2, 2, 0);
        due("11: its own operands do not count", x.undo(), 3);
        due("11: the edges that have it go", x.count(1), 2);
        x.lay();
        x.forge(2, 0);
        x.forge(1, 0);
        x.forge(0, 0);
        x.check();
        due("11: the first that stays", x.wrong(1), 1);

        LoopLane z = new LoopLane();
        z.fetch(0, 1, 1);
        z.put(1);
        due("11: the x of act 0", z.undo(), NO);

        LoopLane y = puts(1);
        y.reckon(1, 1, 1, 9, 1);
        due("11: one that does not stand is in the way of none", y.undo(), 1);
    }

    private static void numberIsOfAPut() {
        LoopLane x = puts(1);
        x.reckon(1, 0, 0, 0, 0);
        due("12: act", x.act(2, 99), BEYOND);
        due("12: act -1", x.act(-1, 0), BEYOND);
        due("12: what 11", x.act(0, 11), NO);
        due("12: what -1", x.act(0, -1), NO);
        due("13: no act", x.number(2), 0L);
        due("13: tells BEYOND", x.again(), BEYOND);
        due("13: no put", x.number(1), 0L);
        due("13: tells KIND", x.again(), KIND);
        due("13: counted", x.status(KIND), 1);
    }

    private static void countsAreRight() {
        LoopLane x = puts(1);
        x.fetch(0, 0, 0);
        due("14: one operand", x.count(2), 1);
        x.fetch(0, 0, 0);
        due("14: two fetches have none", x.count(2), 2);
        x.store(0, 0, 0, 1, 0);
        // its operands 2; with each fetch (a, b, 1, 0), (b, a, 1, 1); itself; each fetch once more, 2
        due("14: a store behind two fetches of its slot", x.count(2), 2 + 2 + 4 + 1 + 4);
        x.fetch(1, 0, 0);
        // its operand; it may be refused, of the turn before
        due("14: a fetch of another slot behind it", x.count(2), 13 + 1 + 1);
        x.reckon(3, 0, 0, 0, 0);
        due("14: the same operand twice, and refusable", x.count(2), 15 + 2 + 1);
        x.reckon(2, 14, 1, 0, 0);
        due("14: what does not stand has none", x.count(2), 18 + 1);
        due("14: stores", x.count(3), 1);
        due("14: acts", x.count(0), 7);
        x.edge(0, 0, 0, 0);
        due("14: told ones are not of the body", x.count(2), 19);
        due("14: told", x.count(1), 1);
        due("14: another", x.count(5), NO);
        due("14: another", x.count(-1), NO);

        LoopLane y = new LoopLane();
        for (int i = 0; i < 16; i++) {
            y.store(2, 0, 1, 0, 1);
        }
        due("14: sixteen stores", y.count(3), 16);
        due("14: their edges", y.count(2), 32 + 120 * 2 + 16 + 120 * 3);
    }

    private static void wholeNeedsAllOperands() {
        LoopLane x = puts(1);
        x.reckon(1, 2, 1, 0, 0);
        due("15: y of the next is not there", x.whole(), 0);
        due("15: not laid out", x.lay(), MISSING);
        due("15: nor run", x.run(1, false), MISSING);
        x.put(1);
        due("15: now it is", x.whole(), 1);
        x.pick(0, 0, 4, 1);
        due("15: z counts", x.whole(), 0);
        LoopLane y = new LoopLane();
        y.fetch(0, 1, 1);
        due("15: the x of act 0 counts", y.whole(), 0);
    }

    /** Terms, 5: what takes the laying away, and what run() told. */
    private static void changesTakeTheLayingAway() {
        for (int how = 0; how < 12; how++) {
            LoopLane x = puts(2);
            x.first(0, 70);
            x.lay();
            x.run(4, true);
            boolean goes = true;
            switch (how) {
                case 0: x.put(1); break;
                case 1: x.reckon(1, 0, 0, 0, 0); break;
                case 2: x.fetch(0, 0, 0); break;
                case 3: x.store(0, 0, 0, 0, 0); break;
                case 4: x.pick(0, 0, 0, 0); break;
                case 5: x.works(0, 2, 0, 1); break;
                case 6: x.unit(0, 2); break;
                case 7: x.edge(0, 1, 1, 0); break;
                case 8: x.undo(); break;
                case 9: x.unit(0, 9); goes = false; break;
                case 10: x.works(0, 13, 0, 1); goes = false; break;
                default: x.row(0, 4, true); goes = false;
            }
            due("5, " + how + ": laying", x.laying(0), goes ? MISSING : 2);
            due("5, " + how + ": told", x.told(3), goes ? 0 : 8);
            due("5, " + how + ": told", x.told(5), goes ? 0 : 1);
            due("5, " + how + ": end", x.end(0), goes ? 70 : 0);
        }
    }
}
