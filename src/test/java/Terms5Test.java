/** 'Terms' 5 and the constants, sentence by sentence: refusals, and what takes a laying away. */
public final class Terms5Test extends Checks {
    public static void main(String[] args) {
        constants();
        whatEachRefusalIsOf();
        theFirstOfSeveral();
        refusedCallsChangeNothing();
        changesTakeTheLayingAway();
        othersLeaveTheLaying();
        Due.finish("Terms5Test");
    }

    private static void constants() {
        sentence("Constants", "The constants: `NONE = -1`: None. `MISSING = -2`: What there is not. `BEYOND = -3`: A number beyond. `BELOW = -4`: A count below 0. `KIND = -5`: Of another kind. `COPY = -6`: A copy that can't be made. `NOTHING = -7`: Nothing to be thrown. `ZERO = -8`: A division by 0. `NO = -9`: Not as told. `FULL = -10`: There is no room. `SPENT = -11`: The TRIALS are through.");
        due("NONE", LoopLane.NONE, -1);
        due("MISSING", LoopLane.MISSING, -2);
        due("BEYOND", LoopLane.BEYOND, -3);
        due("BELOW", LoopLane.BELOW, -4);
        due("KIND", LoopLane.KIND, -5);
        due("COPY", LoopLane.COPY, -6);
        due("NOTHING", LoopLane.NOTHING, -7);
        due("ZERO", LoopLane.ZERO, -8);
        due("NO", LoopLane.NO, -9);
        due("FULL", LoopLane.FULL, -10);
        due("SPENT", LoopLane.SPENT, -11);
    }

    private static void whatEachRefusalIsOf() {
        sentence("Terms 5", "BEYOND a number beyond (an ACT, EDGE, SLOT, kind, place), MISSING what there is not (a LAYING, a ROW), BELOW a count below 0, KIND an ACT or ROW of another kind, COPY, ZERO, NO not as told, FULL.");
        refused("an act", Checks::lived, x -> x.first(4, 1), BEYOND);
        refused("an edge's act", Checks::lived, x -> x.edge(4, 0, 0, 0), BEYOND);
        refused("a slot", Checks::lived, x -> x.empty(8), BEYOND);
        refused("a kind", Checks::lived, x -> x.unit(6, 1), BEYOND);
        refused("a place", Checks::lived, x -> x.set(0, 5, 1), BEYOND);
        refused("a laying", Checks::unlaid, LoopLane::check, MISSING);
        refused("a row", Checks::lived, x -> x.set(2, 0, 1), MISSING);
        refused("a count", Checks::lived, x -> x.run(-1, false), BELOW);
        refusedLong("an act of another kind", Checks::lived, x -> x.number(1), KIND);
        refused("a row of another kind", Checks::lived, x -> x.set(1, 0, 1), KIND);
        refused("a copy", Checks::lived, x -> x.copy(0, 0, 7, 0, 3), COPY);
        refused("not as told", Checks::lived, x -> x.count(9), NO);
        refused("full", Checks::full, x -> x.put(1), FULL);
        LoopLane x = new LoopLane();
        x.put(0);
        x.reckon(3, 0, 0, 0, 0);
        x.run(1, false);
        due("a division by 0, in a run alone", x.told(0), ZERO);
        due("the call is not refused", x.again(), NOTHING);
    }

    private static void manyEdges(LoopLane x) {
        addPuts(x, 2);
        for (int i = 0; i < 40; i++) {
            x.edge(0, 1, 0, 1);
        }
    }

    private static void theFirstOfSeveral() {
        sentence("Terms 5", "REFUSALS, of several the first as each line has them:");
        refused("reckon: NO, BEYOND, FULL", Checks::full, x -> x.reckon(0, 16, 0, -1, 5), NO);
        refused("reckon: BEYOND, FULL", Checks::full, x -> x.reckon(1, 16, 0, -1, 4), BEYOND);
        refused("fetch: NO, BEYOND, FULL", Checks::full, x -> x.fetch(8, 16, 5), NO);
        refused("fetch: BEYOND, FULL", Checks::full, x -> x.fetch(8, 0, 0), BEYOND);
        refused("store: NO, BEYOND, FULL", Checks::full, x -> x.store(-1, 16, 0, 0, -1), NO);
        refused("store: BEYOND, FULL", Checks::full, x -> x.store(0, 0, 0, 16, 4), BEYOND);
        refused("pick: NO, BEYOND, FULL", Checks::full, x -> x.pick(16, 0, 0, 5), NO);
        refused("pick: BEYOND, FULL", Checks::full, x -> x.pick(0, 16, 0, 0), BEYOND);
        refused("works: BEYOND, NO", Checks::lived, x -> x.works(4, 0, 0, 0), BEYOND);
        refused("unit: BEYOND, BELOW", Checks::lived, x -> x.unit(6, -1), BEYOND);
        refused("unit: BEYOND, NO", Checks::lived, x -> x.unit(-1, 5), BEYOND);
        refused("edge: BEYOND, NO, FULL", Terms5Test::manyEdges, x -> x.edge(0, 2, 51, 5), BEYOND);
        refused("edge: NO, FULL", Terms5Test::manyEdges, x -> x.edge(0, 1, 0, 5), NO);
        refused("act: BEYOND, NO", Checks::lived, x -> x.act(4, 11), BEYOND);
        refused("row: BEYOND, BELOW", Checks::lived, x -> x.row(8, -1, true), BEYOND);
        refused("row: BEYOND, NO", Checks::lived, x -> x.row(-1, 41, true), BEYOND);
        refused("set: BEYOND of the slot, BEYOND of the place", Checks::lived, x -> x.set(8, -1, 1), BEYOND);
        refused("set: MISSING, BEYOND", Checks::lived, x -> x.set(2, -1, 1), MISSING);
        refused("set: KIND, BEYOND", Checks::lived, x -> x.set(1, 3, 1), KIND);
        refusedLong("get: MISSING, BEYOND", Checks::lived, x -> x.get(2, -1), MISSING);
        refusedLong("get: KIND, BEYOND", Checks::lived, x -> x.get(1, 3), KIND);
        refused("copy: BEYOND and all else", Checks::lived, x -> x.copy(2, -1, 8, -1, -1), BEYOND);
        refused("copy: MISSING, KIND, BELOW", Checks::lived, x -> x.copy(1, -1, 2, -1, -1), MISSING);
        refused("copy: KIND, BELOW", Checks::lived, x -> x.copy(0, -1, 1, -1, -1), KIND);
        refused("copy: BELOW, COPY", Checks::lived, x -> x.copy(0, -1, 7, -1, -1), BELOW);
        refused("prove: MISSING, BELOW", Checks::nothing, x -> x.prove(-1), MISSING);
        refused("prove: MISSING, NO", Checks::nothing, x -> x.prove(61), MISSING);
        refused("laying: MISSING, NO", Checks::unlaid, x -> x.laying(3), MISSING);
        refused("tick: MISSING, BEYOND, NO", Checks::unlaid, x -> x.tick(4, 5), MISSING);
        refused("tick: BEYOND, NO", Checks::lived, x -> x.tick(4, 5), BEYOND);
        refused("filled: MISSING, BEYOND", Checks::unlaid, x -> x.filled(6, -1), MISSING);
        refused("names: MISSING, BEYOND", Checks::unlaid, x -> x.names(4), MISSING);
        refused("fewest: MISSING, NO", Checks::unlaid, x -> x.fewest(2), MISSING);
        refused("forge: MISSING, BEYOND, BELOW", Checks::unlaid, x -> x.forge(4, -1), MISSING);
        refused("forge: BEYOND, BELOW", Checks::lived, x -> x.forge(4, -1), BEYOND);
        refused("forge: BEYOND, NO", Checks::lived, x -> x.forge(-1, 3001), BEYOND);
        refused("run: MISSING, BELOW", Checks::unlaid, x -> x.run(-1, true), MISSING);
        refused("run: MISSING, NO", Checks::unlaid, x -> x.run(201, true), MISSING);
        refused("compare: MISSING, BELOW", Checks::unlaid, x -> x.compare(-1), MISSING);
        refused("compare: MISSING, NO", Checks::unlaid, x -> x.compare(201), MISSING);
    }

    /** Of each method one refused call at least; more of them stand at the promises. */
    private static void refusedCallsChangeNothing() {
        sentence("Terms 5", "A refused call changes nothing but again() and status().");
        refused("put", Checks::full, x -> x.put(1), FULL);
        refused("reckon", Checks::full, x -> x.reckon(1, 0, 0, 0, 0), FULL);
        refused("reckon", Checks::lived, x -> x.reckon(1, 0, 0, 4, 0), BEYOND);
        refused("fetch", Checks::full, x -> x.fetch(0, 0, 0), FULL);
        refused("fetch", Checks::lived, x -> x.fetch(0, 4, 0), BEYOND);
        refused("store", Checks::full, x -> x.store(0, 0, 0, 0, 0), FULL);
        refused("store", Checks::lived, x -> x.store(0, 0, 0, 4, 0), BEYOND);
        refused("pick", Checks::full, x -> x.pick(0, 0, 0, 0), FULL);
        refused("pick", Checks::lived, x -> x.pick(0, 0, 4, 0), BEYOND);
        refused("works", Checks::lived, x -> x.works(2, 12, 5, 256), NO);
        refused("first", Checks::lived, x -> x.first(4, 9), BEYOND);
        refused("unit", Checks::lived, x -> x.unit(1, 5), NO);
        refused("edge", Checks::lived, x -> x.edge(0, 1, 51, 0), NO);
        refused("edge", Terms5Test::manyEdges, x -> x.edge(0, 1, 9, 1), FULL);
        refused("undo", Terms5Test::takenByAnother, LoopLane::undo, NO);
        refused("undo", Checks::nothing, LoopLane::undo, MISSING);
        refused("act", Checks::lived, x -> x.act(0, 11), NO);
        refusedLong("number", Checks::lived, x -> x.number(2), KIND);
        refused("count", Checks::lived, x -> x.count(5), NO);
        refused("row", Checks::lived, x -> x.row(0, 41, false), NO);
        refused("empty", Checks::lived, x -> x.empty(8), BEYOND);
        refused("set", Checks::lived, x -> x.set(0, 5, 1), BEYOND);
        refusedLong("get", Checks::lived, x -> x.get(0, 5), BEYOND);
        refused("copy", Checks::lived, x -> x.copy(0, 1, 7, 1, 2), COPY);
        refused("lowest", Checks::nothing, LoopLane::lowest, MISSING);
        refused("lay", Checks::nothing, LoopLane::lay, MISSING);
        refused("prove", Checks::livedWithoutTrials, x -> x.prove(61), NO);
        refused("laying", Checks::lived, x -> x.laying(3), NO);
        refused("tick", Checks::lived, x -> x.tick(0, 5), NO);
        refused("filled", Checks::lived, x -> x.filled(6, 0), BEYOND);
        refused("names", Checks::lived, x -> x.names(4), BEYOND);
        refused("fewest", Checks::lived, x -> x.fewest(2), NO);
        refused("forge", Checks::lived, x -> x.forge(0, 3001), NO);
        refused("check", Checks::unlaid, LoopLane::check, MISSING);
        refused("wrong", Checks::lived, x -> x.wrong(6), NO);
        refused("run", Checks::lived, x -> x.run(201, true), NO);
        refused("compare", Checks::lived, x -> x.compare(201), NO);
        refused("told", Checks::lived, x -> x.told(6), NO);
        refusedLong("end", Checks::lived, x -> x.end(4), BEYOND);
        refused("status", Checks::lived, x -> x.status(-12), NO);
    }

    private static void takenByAnother(LoopLane x) {
        addPuts(x, 1);
        x.reckon(1, 0, 0, 2, 1);
        x.put(4);
        x.edge(0, 2, 3, 0);
        x.lay();
        x.run(8, true);
    }

    /** No laying, and nothing told of a run: told() as before, end() is FIRST. */
    private static void isGone(String by, LoopLane x) {
        due(by + ", laying(0)", x.laying(0), MISSING);
        due(by + ", tick(0, 0)", x.tick(0, 0), MISSING);
        due(by + ", filled(0, 0)", x.filled(0, 0), MISSING);
        due(by + ", names(0)", x.names(0), MISSING);
        due(by + ", fewest(0)", x.fewest(0), MISSING);
        due(by + ", forge(0, 0)", x.forge(0, 0), MISSING);
        due(by + ", check()", x.check(), MISSING);
        due(by + ", run(1, true)", x.run(1, true), MISSING);
        due(by + ", compare(1)", x.compare(1), MISSING);
        for (int what = 0; what < 6; what++) {
            due(by + ", told(" + what + ")", x.told(what), what == 1 || what == 2 ? NONE : 0);
        }
        for (int a = 0; a < 3; a++) {
            due(by + ", end(" + a + ")", x.end(a), a == 1 ? -1 : 0);
        }
    }

    private static void changesTakeTheLayingAway() {
        sentence("Terms 5", "What changes the BODY, UNITS or EDGES (ACTS that come, works, unit, edge, undo) takes the LAYING away, and what run() told.");
        String[] names = {"put", "reckon", "fetch", "store", "pick", "works", "unit", "edge", "undo"};
        for (int how = 0; how < names.length; how++) {
            LoopLane x = after(Checks::lived);
            due("lived(), told(0)", x.told(0), BEYOND);
            due("lived(), told(5)", x.told(5), 1);
            due("lived(), end(1)", x.end(1), 4);
            switch (how) {
                case 0: due("put", x.put(1), 4); break;
                case 1: due("reckon", x.reckon(1, 0, 0, 0, 0), 4); break;
                case 2: due("fetch", x.fetch(0, 0, 0), 4); break;
                case 3: due("store", x.store(0, 0, 0, 0, 0), 4); break;
                case 4: due("pick", x.pick(0, 0, 0, 0), 4); break;
                case 5: due("works", x.works(0, 2, 0, 1), 1); break;
                case 6: due("unit", x.unit(5, 0), 1); break;
                case 7: due("edge", x.edge(0, 0, -50, 4), 3); break;
                default: due("undo", x.undo(), 3);
            }
            isGone(names[how], x);
        }
    }

    private static void othersLeaveTheLaying() {
        sentence("Terms 5", "(ACTS that come, works, unit, edge, undo)");
        LoopLane x = after(Checks::lived);
        int beat = x.laying(0);
        int begun = x.told(3);
        x.first(1, 50);
        x.row(2, 9, true);
        x.empty(0);
        x.set(7, 0, 1);
        x.copy(7, 0, 7, 1, 1);
        x.act(0, 0);
        x.number(0);
        x.count(2);
        x.whole();
        x.lowest();
        x.prove(3);
        x.prove(60);
        x.forge(0, 3);
        x.check();
        x.compare(20);
        due("laying(0)", x.laying(0), beat);
        due("told(3)", x.told(3), begun);
        due("told(0)", x.told(0), BEYOND);
        due("end(1)", x.end(1), 4);
        due("lay()", x.lay(), beat);
        due("told(3), behind lay()", x.told(3), begun);
        due("end(1), behind lay()", x.end(1), 4);
    }
}
