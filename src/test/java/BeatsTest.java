/** Promises 21 to 32: beats. */
public final class BeatsTest {
    private static final int NONE = -1, MISSING = -2, BEYOND = -3, BELOW = -4, NO = -9, SPENT = -11;

    public static void main(String[] args) {
        lowestByUnits();
        lowestByRings();
        rowsAskForOrder();
        storesWaitForWhatMayBeRefused();
        layingOutGoesBack();
        greaterBeatsAreTried();
        layingOutEnds();
        patternsGoRound();
        provesTell();
        trialsAreOfTheLatest();
        layingAndTicks();
        boundsByEdgesAlone();
        stagesAtBeatOne();
        filledUnits();
        namesOfEnds();
        forgedForCheckAlone();
        wrongTellsTheFirst();
        nothingWithoutALaying();
        Due.finish("BeatsTest");
    }

    private static void due(String call, long got, long want) {
        Due.due(call, got, want);
    }

    private static LoopLane puts(int n) {
        LoopLane x = new LoopLane();
        for (int i = 0; i < n; i++) {
            x.put(i);
        }
        return x;
    }

    private static void lowestByUnits() {
        LoopLane x = new LoopLane();
        due("21: no acts", x.lowest(), MISSING);
        x = puts(7);
        due("21: 7 of 1", x.lowest(), 7);
        x.unit(0, 3);
        due("21: 7 of 3", x.lowest(), 3);
        x.works(6, 1, 2, 255);
        due("21: 8 bits of another kind", x.lowest(), 8);
        x.unit(5, 0);
        due("21: a kind that nothing fills", x.lowest(), 8);
        x.unit(2, 0);
        due("21: none of it", x.lowest(), NO);

        x = puts(8);
        for (int a = 0; a < 8; a++) {
            x.works(a, 1, 0, a < 4 ? 255 : 127);
        }
        due("21: 60 bits", x.lowest(), 60);
        x.works(7, 1, 0, 255);
        due("21: 61 bits", x.lowest(), NO);
        due("22: 61 bits", x.lay(), NO);
        x.unit(0, 2);
        due("21: 61 bits of 2", x.lowest(), 31);
        x.reckon(1, 9, 1, 0, 0);
        due("21: not whole", x.lowest(), MISSING);
    }

    private static void lowestByRings() {
        LoopLane x = new LoopLane();
        x.reckon(1, 0, 1, 0, 4);
        due("21: itself", x.lowest(), 1);
        x.works(0, 12, 0, 1);
        due("21: its lag, of one turn", x.lowest(), 12);

        x = puts(2);
        x.unit(0, 4);
        x.edge(0, 1, 7, 0);
        x.edge(1, 0, 0, 3);
        due("21: 7 ticks in 3 turns", x.lowest(), 3);
        x.edge(1, 0, 2, 3);
        due("21: 9 in 3", x.lowest(), 3);
        x.edge(1, 0, 3, 3);
        due("21: 10 in 3", x.lowest(), 4);

        x = puts(2);
        x.edge(0, 1, -50, 0);
        x.edge(1, 0, 50, 0);
        due("21: no ticks in no turns", x.lowest(), 2);
        x.edge(1, 0, 50, 0);
        x.edge(0, 1, -49, 0);
        due("21: 1 tick in no turns", x.lowest(), NO);
        due("23: a ring at any beat", x.prove(60), 2);

        x = puts(1);
        x.edge(0, 0, 1, 0);
        due("21: itself in no turns", x.lowest(), NO);
        x = puts(3);
        x.edge(0, 1, 30, 0);
        x.edge(1, 2, 30, 0);
        x.edge(2, 0, 0, 1);
        due("21: 60", x.lowest(), 60);
        x.edge(2, 0, 1, 1);
        due("21: 61", x.lowest(), NO);
        due("22: 61", x.lay(), NO);
        due("24: no trials", x.trials(), 0);
    }

    private static void rowsAskForOrder() {
        LoopLane x = puts(1);
        x.unit(0, 4);
        x.fetch(0, 0, 0);
        x.works(1, 4, 1, 1);
        x.store(0, 0, 0, 1, 0);
        x.works(2, 1, 2, 1);
        due("2: fetch, then store, then fetch of the next turn", x.lowest(), 5);
        LoopLane y = puts(1);
        y.unit(0, 4);
        y.fetch(0, 0, 0);
        y.works(1, 4, 1, 1);
        y.store(1, 0, 0, 1, 0);
        y.works(2, 1, 2, 1);
        due("2: another slot", y.lowest(), 1);
        LoopLane z = puts(1);
        z.fetch(0, 0, 0);
        z.works(1, 4, 1, 1);
        z.store(0, 0, 0, 0, 0);
        z.works(2, 1, 2, 1);
        due("2: one tick each way", z.lowest(), 2);
        LoopLane w = puts(1);
        w.unit(0, 4);
        w.fetch(0, 0, 0);
        w.fetch(0, 0, 0);
        due("2: two fetches do not wait", w.lowest(), 1);
    }

    private static void storesWaitForWhatMayBeRefused() {
        LoopLane x = puts(1);
        x.unit(0, 4);
        x.reckon(3, 0, 0, 0, 0);
        x.store(0, 0, 0, 0, 0);
        due("2: over, then store", x.lay(), 1);
        due("2: the store is behind", x.tick(2, 3), 2);
        x = puts(1);
        x.unit(0, 4);
        x.store(0, 0, 0, 0, 0);
        x.reckon(3, 2, 1, 0, 0);
        x.works(2, 9, 0, 1);
        x.reckon(1, 1, 0, 1, 0);
        due("2: over of the turn before, then store", x.lay(), 9);
        x.forge(1, 0);
        x.forge(2, 9);
        x.forge(3, 1);
        due("2: it is as early as it may", x.check(), 1);
        due("2: a", x.wrong(0), 0);
        x.forge(1, 1);
        x.forge(3, 2);
        due("2: over may begin a beat behind", x.check(), 0);
        x.forge(2, 10);
        due("2: not more", x.check(), 1);
        due("2: a", x.wrong(0), 2);
        due("2: b", x.wrong(1), 1);
        due("2: ticks", x.wrong(2), 1);
        due("2: turns", x.wrong(3), 1);
    }

    private static void layingOutGoesBack() {
        LoopLane x = puts(1);
        x.reckon(1, 0, 0, 1, 1);
        x.fetch(0, 1, 0);
        x.reckon(1, 2, 0, 2, 0);
        x.store(0, 1, 0, 3, 0);
        x.works(2, 3, 1, 1);
        x.works(4, 1, 1, 1);
        due("22: lay", x.lay(), 5);
        due("24: trials", x.trials(), 18);
        int[] ticks = {0, 1, 0, 3, 4};
        int[] stages = {0, 0, 1, 1, 1};
        for (int a = 0; a < 5; a++) {
            due("26: tick(" + a + ", 0)", x.tick(a, 0), ticks[a]);
            due("26: tick(" + a + ", 1)", x.tick(a, 1), stages[a]);
            due("26: tick(" + a + ", 2)", x.tick(a, 2), 5 * stages[a] + ticks[a]);
        }
        due("22: once more", x.lay(), 5);
        due("24: as many", x.trials(), 18);

        LoopLane y = puts(2);
        y.edge(1, 0, 3, 0);
        due("22: lay", y.lay(), 2);
        due("26: act 0 has tick 0, and a stage", y.tick(0, 1), 2);
        due("26: act 1 tick", y.tick(1, 0), 1);
        due("26: act 1 stage", y.tick(1, 1), 0);
        due("25: stages", y.laying(1), 3);
        due("24: 0 with 0, 1 with 0 and 1", y.trials(), 3);
    }

    private static void greaterBeatsAreTried() {
        LoopLane x = puts(2);
        x.works(0, 1, 0, 5);
        x.works(1, 1, 0, 5);
        due("21: 4 bits", x.lowest(), 4);
        due("22: 0 2, 1 3", x.lay(), 4);
        x.works(1, 1, 0, 9);
        due("21: 4 bits", x.lowest(), 4);
        due("23: 0 2, and 0 3 or 1 0 or 2 1 or 3 2", x.prove(4), 3);
        due("24: 1 and 4", x.trials(), 5);
        due("22: 0 2, 1 4", x.lay(), 5);
        due("24: 5 more, and 1 and 2", x.trials(), 5 + 1 + 2);
        due("26: tick", x.tick(1, 0), 1);
    }

    private static void layingOutEnds() {
        LoopLane x = puts(2);
        x.edge(0, 1, 0, 0);
        x.edge(1, 0, 0, 0);
        due("21: both at one tick", x.lowest(), 2);
        due("22: no beat to 60", x.lay(), NO);
        due("24: 1 + b of each b from 2", x.trials(), 59 + (60 * 61 / 2 - 1));
        due("25: no laying", x.laying(0), MISSING);

        x = puts(3);
        x.edge(0, 2, 0, 0);
        x.edge(2, 0, 0, 0);
        due("22: too many trials", x.lay(), SPENT);
        due("24: all of them", x.trials(), 3000);
        // at b: act 0 once, act 1 at b ticks, and act 2 at b ticks for each of the b - 1 that fit
        due("23: at 54 they suffice", x.prove(54), 3);
        due("24: 1 + 54 + 53 * 54", x.trials(), 1 + 54 + 53 * 54);
        due("23: at 55 they do not", x.prove(55), 4);
        due("24: not the 3001st", x.trials(), 3000);
        due("38: prove() is not refused by that", x.status(SPENT), 1);
    }

    private static void patternsGoRound() {
        LoopLane x = puts(1);
        x.works(0, 1, 3, 0b10001);
        x.unit(3, 2);
        due("21: 2 bits of 2", x.lowest(), 1);
        due("22: two bits at one tick", x.lay(), 1);
        due("27: are two units", x.filled(3, 0), 2);
        x.unit(3, 1);
        due("21: 2 bits of 1", x.lowest(), 2);
        due("23: 0 and 4 are one tick of 2", x.prove(2), 3);
        due("22: 0 and 4 of 3", x.lay(), 3);
        due("24: one at 2, one at 3", x.trials(), 2);
        due("27: at 0", x.filled(3, 0), 1);
        due("27: 4 is 1", x.filled(3, 1), 1);
        due("27: at 2", x.filled(3, 2), 0);
        x.works(0, 1, 3, 128);
        due("22: one bit", x.lay(), 1);
    }

    private static void provesTell() {
        LoopLane x = new LoopLane();
        due("23: no acts, ahead of b", x.prove(-1), MISSING);
        x = puts(3);
        due("23: below", x.prove(-1), BELOW);
        due("23: below", x.prove(Integer.MIN_VALUE), BELOW);
        due("23: 0", x.prove(0), NO);
        due("23: 61", x.prove(61), NO);
        due("23: units", x.prove(2), 1);
        due("23: nothing", x.prove(3), 0);
        due("23: nothing", x.prove(60), 0);
        due("23: it is not laid", x.laying(0), MISSING);
        x.edge(0, 0, 8, 2);
        due("23: units ahead of rings", x.prove(2), 1);
        due("23: a ring", x.prove(3), 2);
        due("23: none", x.prove(4), 0);
        x.lay();
        x.forge(1, 0);
        x.prove(9);
        due("23: the laying stays", x.laying(0), 4);
        due("23: what was forged, too", x.check(), 2);
        x.unit(0, 0);
        due("23: no units", x.prove(60), 1);
        x.reckon(1, 9, 1, 0, 0);
        due("23: not whole", x.prove(5), MISSING);
    }

    private static void trialsAreOfTheLatest() {
        LoopLane x = puts(3);
        due("24: none yet", x.trials(), 0);
        x.lay();
        due("24: 1, 2, 3", x.trials(), 6);
        x.put(1);
        due("24: they stay", x.trials(), 6);
        x.prove(4);
        due("24: of prove", x.trials(), 10);
        x.lowest();
        due("24: lowest() makes none", x.trials(), 10);
        x.prove(1);
        due("24: made none", x.trials(), 0);
        x.prove(4);
        x.prove(0);
        due("24: refused ahead of them", x.trials(), 0);
        x.prove(4);
        x.unit(0, 0);
        x.lay();
        due("24: refused ahead of them", x.trials(), 0);
    }

    private static void layingAndTicks() {
        LoopLane x = puts(2);
        x.works(0, 12, 0, 1);
        x.lay();
        due("25: beat", x.laying(0), 2);
        due("25: stages", x.laying(1), 1);
        due("25: the last end is not of the last begin", x.laying(2), 12);
        due("25: another", x.laying(3), NO);
        due("25: another", x.laying(-1), NO);
        due("26: act ahead of what", x.tick(2, 9), BEYOND);
        due("26: act -1", x.tick(-1, 0), BEYOND);
        due("26: another", x.tick(0, 5), NO);
        due("26: another", x.tick(0, -1), NO);
    }

    private static void boundsByEdgesAlone() {
        LoopLane x = puts(1);
        x.reckon(1, 0, 0, 0, 0);
        x.put(5);
        x.reckon(1, 1, 0, 2, 0);
        x.works(0, 3, 1, 1);
        x.edge(3, 2, -4, 0);
        due("22: lay", x.lay(), 3);
        int[] early = {0, 3, 0, 4};
        int[] late = {0, 3, 3, 4};
        for (int a = 0; a < 4; a++) {
            due("26: tick(" + a + ", 3)", x.tick(a, 3), early[a]);
            due("26: tick(" + a + ", 4)", x.tick(a, 4), late[a]);
        }
        x.edge(0, 2, 50, 3);
        x.lay();
        due("26: 50 - 3 * 3", x.tick(2, 3), 41);
        due("26: and then act 3", x.tick(3, 3), 42);
        due("26: act 0 waits for none", x.tick(0, 4), 0);
        due("26: act 1 may wait", x.tick(1, 4), 41);

        LoopLane y = puts(3);
        y.edge(1, 0, 6, 0);
        y.lay();
        due("26: act 0 is behind act 1", y.tick(0, 3), 6);
        due("26: so act 1 can't wait", y.tick(1, 4), 0);
        due("26: act 2 may wait for the end", y.tick(2, 4), 6);
        due("26: but need not", y.tick(2, 3), 0);
    }

    private static void stagesAtBeatOne() {
        LoopLane x = puts(1);
        x.unit(0, 4);
        x.works(0, 5, 0, 1);
        x.reckon(1, 0, 0, 2, 3);
        x.works(1, 2, 0, 1);
        x.reckon(1, 1, 0, 0, 0);
        due("22: lay", x.lay(), 1);
        due("24: each at once", x.trials(), 3);
        int[] stages = {0, 5, 7};
        for (int a = 0; a < 3; a++) {
            due("26: tick(" + a + ", 0)", x.tick(a, 0), 0);
            due("26: tick(" + a + ", 1)", x.tick(a, 1), stages[a]);
            due("26: tick(" + a + ", 2)", x.tick(a, 2), stages[a]);
        }
        due("27: all at one tick", x.filled(0, 0), 3);
        due("25: stages", x.laying(1), 8);
        due("28: 7 and 1", x.names(0), 8);
        due("28: 2 and 1", x.names(1), 3);
        due("28: 5 + 3 - 7 and 1", x.names(2), 2);
    }

    private static void filledUnits() {
        LoopLane x = puts(2);
        x.works(1, 1, 4, 0b110);
        x.lay();
        due("27: beat", x.laying(0), 2);
        due("27: act 0", x.filled(0, 0), 1);
        due("27: act 0", x.filled(0, 1), 0);
        due("27: act 1", x.filled(4, 0), 1);
        due("27: act 1", x.filled(4, 1), 1);
        due("27: kind 6", x.filled(6, 0), BEYOND);
        due("27: kind -1", x.filled(-1, 0), BEYOND);
        due("27: tick 2", x.filled(0, 2), BEYOND);
        due("27: tick -1", x.filled(0, -1), BEYOND);
        x.forge(0, 1);
        due("27: not what was forged", x.filled(0, 0), 1);
    }

    private static void namesOfEnds() {
        LoopLane x = puts(1);
        x.reckon(1, 0, 4, 0, 0);
        x.reckon(1, 1, 0, 1, 0);
        due("28: lay", x.lay(), 3);
        due("28: (1 + 4 * 3) / 3 and 1", x.names(0), 5);
        due("28: 1 / 3 and 1", x.names(1), 1);
        due("28: taken by none", x.names(2), 1);
        due("29: in all", x.fewest(0), 7);
        due("29: by the greatest", x.fewest(1), 15);
        due("28: act", x.names(3), BEYOND);
        due("28: act", x.names(-1), BEYOND);
        due("29: another", x.fewest(2), NO);
        due("29: another", x.fewest(-1), NO);
        x = new LoopLane();
        x.reckon(1, 0, 1, 0, 1);
        x.lay();
        due("28: a beat of life is one place more", x.names(0), 2);
        x.works(0, 7, 0, 1);
        x.lay();
        due("28: of the begin, not of the lag", x.names(0), 2);
    }

    private static void forgedForCheckAlone() {
        LoopLane x = puts(2);
        x.edge(0, 1, 1, 0);
        x.lay();
        due("31: right", x.check(), 0);
        due("30: its begin before", x.forge(1, 3000), 1);
        due("30: as forged before", x.forge(1, 0), 3000);
        due("26: the laying is as it was", x.tick(1, 2), 1);
        due("31: an edge", x.check(), 1);
        due("33: runs go by the laying", x.run(2, true), 2);
        due("35: ticks", x.told(4), 4);
        due("30: act ahead of t", x.forge(2, -1), BEYOND);
        due("30: t below", x.forge(0, -1), BELOW);
        due("30: t above", x.forge(0, 3001), NO);
        due("31: units", x.forge(1, 2) + x.check(), 2);
        due("31: right again", x.forge(1, 3) + x.check(), 2);
        x.lay();
        due("30: lay() ends it", x.forge(1, 5), 1);
    }

    private static void wrongTellsTheFirst() {
        LoopLane x = puts(3);
        x.edge(2, 1, 5, 1);
        x.edge(0, 1, 4, 1);
        x.edge(0, 1, 3, 2);
        x.edge(0, 1, 3, 1);
        x.edge(0, 1, -2, 0);
        x.edge(1, 0, 9, 4);
        due("22: lay", x.lay(), 3);
        due("31: right", x.check(), 0);
        for (int what = 0; what < 6; what++) {
            due("32: nothing is told", x.wrong(what), NONE);
        }
        x.forge(0, 40);
        x.forge(2, 40);
        due("31: an edge, ahead of units", x.check(), 1);
        int[] want = {0, 1, -2, 0, NONE, NONE};
        for (int what = 0; what < 6; what++) {
            due("32: wrong(" + what + ")", x.wrong(what), want[what]);
        }
        x.forge(1, 36);
        due("31: edges", x.check(), 1);
        due("32: 38 < 40", x.wrong(2), -2);
        x.forge(1, 38);
        due("31: edges", x.check(), 1);
        due("32: 41 < 43", x.wrong(2), 3);
        due("32: the least turns of those that do not hold", x.wrong(3), 1);
        x.forge(1, 41);
        due("31: edges", x.check(), 1);
        due("32: of act 2", x.wrong(0), 2);
        x.forge(2, 38);
        due("31: units", x.check(), 2);
        int[] units = {NONE, NONE, NONE, NONE, 0, 2};
        for (int what = 0; what < 6; what++) {
            due("32: wrong(" + what + ")", x.wrong(what), units[what]);
        }
        due("32: another", x.wrong(6), NO);
        due("32: another", x.wrong(-1), NO);
        x.put(1);
        due("32: of the latest check()", x.wrong(5), 2);
        x.lay();
        x.check();
        due("32: and of no other", x.wrong(5), NONE);
    }

    private static void nothingWithoutALaying() {
        LoopLane x = puts(1);
        due("25", x.laying(9), MISSING);
        due("26", x.tick(9, 9), MISSING);
        due("27", x.filled(9, 9), MISSING);
        due("28", x.names(9), MISSING);
        due("29", x.fewest(9), MISSING);
        due("30", x.forge(9, -9), MISSING);
        due("31", x.check(), MISSING);
        due("32", x.wrong(0), NONE);
    }
}
