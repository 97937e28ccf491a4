/** Promises 37 and 38: refusals. */
public final class RefusalsTest {
    private static final int MISSING = -2, BEYOND = -3, BELOW = -4, KIND = -5, COPY = -6, NOTHING = -7,
            ZERO = -8, NO = -9, FULL = -10, SPENT = -11;

    public static void main(String[] args) {
        theLatestIsAnsweredOnce();
        allAreCounted();
        runsDoNotCount();
        statusIsRefused();
        refusedCallsChangeNothing();
        Due.finish("RefusalsTest");
    }

    private static void due(String call, long got, long want) {
        Due.due(call, got, want);
    }

    private static void theLatestIsAnsweredOnce() {
        LoopLane x = new LoopLane();
        due("37: nothing yet", x.again(), NOTHING);
        x.undo();
        x.unit(0, -1);
        x.count(0);
        due("37: the latest one", x.again(), BELOW);
        due("37: there is none any more", x.again(), NOTHING);
        due("37: nor was the NOTHING kept", x.again(), NOTHING);
        due("38: NOTHING is no refusal", x.status(NOTHING), 0);
        due("37: asking for how many is none either", x.again(), NOTHING);
        due("38: again() is not counted where it answers one", x.status(BELOW), 1);
        x.get(0, 0);
        due("37: of get()", x.again(), MISSING);
        x.end(0);
        due("37: of end()", x.again(), BEYOND);
    }

    private static void allAreCounted() {
        LoopLane x = new LoopLane();
        x.undo();
        x.get(9, 0);
        x.end(5);
        x.number(-1);
        x.row(0, -1, true);
        x.row(0, 5, false);
        x.set(0, 0, 1);
        x.row(1, 2, true);
        x.copy(1, 0, 1, 1, 2);
        x.count(77);
        for (int i = 0; i < 18; i++) {
            x.put(i);
        }
        int[] want = {1, 3, 1, 1, 1, 0, 0, 1, 2, 0};
        for (int by = MISSING; by >= SPENT; by--) {
            due("38: status(" + by + ")", x.status(by), want[-2 - by]);
        }
    }

    private static void runsDoNotCount() {
        LoopLane x = new LoopLane();
        x.put(0);
        x.reckon(3, 0, 0, 0, 0);
        x.run(3, false);
        due("35: told", x.told(0), ZERO);
        due("38: the call was not refused", x.status(ZERO), 0);
        due("37: nor is there one", x.again(), NOTHING);
    }

    private static void statusIsRefused() {
        LoopLane x = new LoopLane();
        due("38: -12", x.status(-12), NO);
        due("38: -1", x.status(-1), NO);
        due("38: 0", x.status(0), NO);
        due("38: itself counts", x.status(NO), 3);
        due("37: itself", x.again(), NO);
        due("38: far", x.status(Integer.MIN_VALUE), NO);
        due("38: far", x.status(Integer.MAX_VALUE), NO);
    }

    private static void refusedCallsChangeNothing() {
        LoopLane x = new LoopLane();
        x.put(3);
        x.put(4);
        x.lay();
        x.run(5, true);
        x.forge(1, 0);
        x.check();
        x.run(-1, true);
        x.run(201, false);
        x.compare(999);
        x.forge(0, -1);
        x.unit(9, 1);
        x.undo();
        x.put(4);
        due("5: undo and put took the laying away", x.check(), MISSING);
        due("32: a refused check() tells nothing new", x.wrong(4), 0);
        due("32: the tick as well", x.wrong(5), 0);
        due("22: laid out anew", x.lay(), 2);
        x.run(5, false);
        x.run(-1, false);
        x.run(2, false);
        x.run(201, false);
        due("33: a refused run tells nothing new", x.told(3), 4);
    }
}
