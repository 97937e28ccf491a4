/** 'What it is' and 'Terms' 1, sentence by sentence: the body, its sorts, the slots. */
public final class Terms1Test extends Checks {
    public static void main(String[] args) {
        sixteenActsInOrder();
        fiveHundredAndTwelveCalls();
        lagsAndKinds();
        patterns();
        anEndEachTurn();
        putSumTimes();
        overIsCutTowardsZero();
        overByZero();
        fetchFromPlaceZero();
        storeAnswersWhatWasThere();
        pickByNotZero();
        longsWrap();
        operandsOfFourTurnsBefore();
        ownAndLaterOnesOnlyOfTurnsBefore();
        firstsAheadOfTheFirstTurn();
        slotsHaveRows();
        rowsRefuseInOrder();
        unitsOfEachKind();
        Due.finish("Terms1Test");
    }

    private static void sixteenActsInOrder() {
        sentence("What it is", "THE BODY has ACTS 0, 1, .. in order, 16 at most.");
        LoopLane x = new LoopLane();
        due("no acts", x.count(0), 0);
        for (int a = 0; a < 16; a += 5) {
            due("put", x.put(7), a);
            if (a < 15) {
                due("reckon", x.reckon(1, 0, 0, 0, 0), a + 1);
                due("fetch", x.fetch(0, 0, 0), a + 2);
                due("store", x.store(0, 0, 0, 0, 0), a + 3);
                due("pick", x.pick(0, 0, 0, 0), a + 4);
            }
        }
        due("16 acts", x.count(0), 16);
        due("the 17th", x.put(7), FULL);
        due("16 acts", x.count(0), 16);
        due("one goes", x.undo(), 15);
        due("and another comes", x.pick(0, 0, 0, 0), 15);
    }

    private static void fiveHundredAndTwelveCalls() {
        sentence("What it is", "An object is used for at most 512 calls after it has been made; what later calls answer is free.");
        LoopLane x = new LoopLane();
        for (int call = 1; call <= 511; call++) {
            x.undo();
        }
        due("the 512th call, status(MISSING)", x.status(MISSING), 511);
        for (int call = 513; call <= 1100; call++) {
            x.undo();
            x.put(call);
            x.lay();
            x.run(200, true);
        }
        LoopLane dear = apart(3);
        fix(dear, 0, 2, 0);
        fix(dear, 1, 2, 0);
        dear.works(1, 1, 0, 1);
        for (int call = 12; call <= 512; call++) {
            due("call " + call + ", lay()", dear.lay(), SPENT);
        }
    }

    private static void lagsAndKinds() {
        sentence("Terms 1", "An ACT has a SORT, operands, a LAG (1 .. 12 TICKS), a UNIT kind (0 .. 5)");
        LoopLane x = puts(1);
        for (int lag = 1; lag <= 12; lag++) {
            due("lag " + lag, x.works(0, lag, 0, 1), 1);
            due("lag " + lag, x.act(0, 1), lag);
            x.lay();
            due("ends at its lag", x.laying(2), lag);
        }
        for (int kind = 0; kind <= 5; kind++) {
            due("kind " + kind, x.works(0, 1, kind, 1), 1);
            due("kind " + kind, x.act(0, 2), kind);
            x.lay();
            for (int other = 0; other <= 5; other++) {
                due("filled(" + other + ", 0)", x.filled(other, 0), other == kind ? 1 : 0);
            }
        }
        refused("lag 0", Checks::lived, y -> y.works(0, 0, 0, 1), NO);
        refused("lag 13", Checks::lived, y -> y.works(0, 13, 0, 1), NO);
        refused("kind -1", Checks::lived, y -> y.works(0, 1, -1, 1), BEYOND);
        refused("kind 6", Checks::lived, y -> y.works(0, 1, 6, 1), BEYOND);
    }

    private static void patterns() {
        sentence("Terms 1", "and a PATTERN (8 bits, the lowest one not 0 alone: bit i: the unit is filled in the i-th TICK from its beginning on; 1 .. 255)");
        LoopLane x = puts(1);
        x.edge(0, 0, 20, 2);
        for (int i = 0; i < 8; i++) {
            due("bit " + i + " alone", x.works(0, 1, 3, 1 << i), 1);
            due("bit " + i + " alone", x.act(0, 3), 1 << i);
            due("lay()", x.lay(), 10);
            for (int tick = 0; tick < 10; tick++) {
                due("bit " + i + ", filled(3, " + tick + ")", x.filled(3, tick), tick == i ? 1 : 0);
            }
        }
        due("all bits", x.works(0, 1, 3, 255), 1);
        due("lay()", x.lay(), 10);
        for (int tick = 0; tick < 10; tick++) {
            due("all bits, filled(3, " + tick + ")", x.filled(3, tick), tick < 8 ? 1 : 0);
        }
        refused("pattern 0", Checks::lived, y -> y.works(0, 1, 0, 0), NO);
        refused("pattern 256", Checks::lived, y -> y.works(0, 1, 0, 256), NO);
    }

    private static void anEndEachTurn() {
        sentence("Terms 1", ", and an END, a long, each TURN.");
        LoopLane x = new LoopLane();
        x.put(3);
        x.reckon(2, 0, 0, 1, 1);
        x.first(1, 1);
        long power = 1;
        for (int n = 1; n <= 39; n++) {
            power *= 3;
            x.run(n, false);
            due("3 to the " + n, x.end(1), power);
        }
    }

    private static long reckoned(int sort, long left, long right) {
        LoopLane x = new LoopLane();
        x.put(left);
        x.put(right);
        x.reckon(sort, 0, 0, 1, 0);
        due("run(1, false)", x.run(1, false), 1);
        return x.end(2);
    }

    private static void putSumTimes() {
        sentence("Terms 1", "SORTS: 0 PUT (a number told), 1 SUM x y, 2 TIMES x y,");
        due("put", reckoned(1, -8, 0), -8);
        due("sum", reckoned(1, -8, 3), -5);
        due("times", reckoned(2, -8, 3), -24);
        due("times 0", reckoned(2, -8, 0), 0);
        LoopLane x = new LoopLane();
        x.put(Long.MIN_VALUE);
        x.run(1, false);
        due("a put's end", x.end(0), Long.MIN_VALUE);
        due("its sort", x.act(0, 0), 0);
    }

    private static void overIsCutTowardsZero() {
        sentence("Terms 1", "3 OVER x y (cut towards 0;");
        due("7 over 2", reckoned(3, 7, 2), 3);
        due("-7 over 2", reckoned(3, -7, 2), -3);
        due("7 over -2", reckoned(3, 7, -2), -3);
        due("-7 over -2", reckoned(3, -7, -2), 3);
        due("1 over 2", reckoned(3, 1, 2), 0);
        due("-1 over 2", reckoned(3, -1, 2), 0);
        due("0 over 5", reckoned(3, 0, 5), 0);
        due("-6 over 2, nothing to cut", reckoned(3, -6, 2), -3);
    }

    private static void overByZero() {
        sentence("Terms 1", "y 0: ZERO),");
        for (long y = -1; y <= 1; y++) {
            LoopLane x = new LoopLane();
            x.put(9);
            x.put(y);
            x.reckon(3, 0, 0, 1, 0);
            due("over " + y, x.run(1, false), y == 0 ? 0 : 1);
            due("over " + y + ", told(0)", x.told(0), y == 0 ? ZERO : 0);
            due("over " + y + ", end(2)", x.end(2), 9 * y);
        }
        LoopLane x = new LoopLane();
        x.put(0);
        x.put(1L << 32);
        x.reckon(3, 0, 0, 0, 0);
        x.reckon(3, 0, 0, 1, 0);
        x.run(1, false);
        due("0 over 0", x.told(0), ZERO);
        due("0 over 0", x.told(1), 2);
        due("2 to the 32nd is not 0", reckoned(3, 1L << 33, 1L << 32), 2);
    }

    private static LoopLane withRow(long place) {
        LoopLane x = new LoopLane();
        x.row(4, 3, true);
        x.row(5, 3, true);
        for (int i = 0; i < 3; i++) {
            x.set(4, i, 40 + i);
            x.set(5, i, 50 + i);
        }
        x.put(place);
        return x;
    }

    private static void fetchFromPlaceZero() {
        sentence("Terms 1", "4 FETCH s x (LONG x, from 0, of the ROW in SLOT s),");
        for (int i = 0; i < 3; i++) {
            LoopLane x = withRow(i);
            x.fetch(4, 0, 0);
            x.fetch(5, 0, 0);
            due("place " + i, x.run(1, false), 1);
            due("of slot 4", x.end(1), 40 + i);
            due("of slot 5", x.end(2), 50 + i);
            due("it stays there", x.get(4, i), 40 + i);
        }
    }

    private static void storeAnswersWhatWasThere() {
        sentence("Terms 1", "5 STORE s x y (that LONG becomes y; its END is what was there),");
        for (int i = 0; i < 3; i++) {
            LoopLane x = withRow(i);
            x.put(-9);
            x.store(4, 0, 0, 1, 0);
            x.store(4, 0, 0, 0, 0);
            due("place " + i, x.run(1, false), 1);
            due("what was there", x.end(2), 40 + i);
            due("what the first one stored", x.end(3), -9);
            for (int j = 0; j < 3; j++) {
                due("get(4, " + j + ")", x.get(4, j), j == i ? i : 40 + j);
                due("get(5, " + j + ")", x.get(5, j), 50 + j);
            }
        }
    }

    private static void pickByNotZero() {
        sentence("Terms 1", "6 PICK x y z (y if x is not 0, else z).");
        for (long by : new long[] {0, 1, -1, 1L << 32, Long.MIN_VALUE, Long.MAX_VALUE}) {
            LoopLane x = new LoopLane();
            x.put(by);
            x.put(20);
            x.put(30);
            x.pick(0, 1, 2, 0);
            x.run(1, false);
            due("pick by " + by, x.end(3), by == 0 ? 30 : 20);
        }
    }

    private static void longsWrap() {
        sentence("Terms 1", "Longs wrap.");
        due("greatest + 1", reckoned(1, Long.MAX_VALUE, 1), Long.MIN_VALUE);
        due("least + -1", reckoned(1, Long.MIN_VALUE, -1), Long.MAX_VALUE);
        due("least + least", reckoned(1, Long.MIN_VALUE, Long.MIN_VALUE), 0);
        due("greatest * 2", reckoned(2, Long.MAX_VALUE, 2), -2);
        due("least * -1", reckoned(2, Long.MIN_VALUE, -1), Long.MIN_VALUE);
        due("2 to the 32nd * itself", reckoned(2, 1L << 32, 1L << 32), 0);
        due("least over -1", reckoned(3, Long.MIN_VALUE, -1), Long.MIN_VALUE);
        due("no int: 2 to the 31st", reckoned(1, MOST, 1), 1L << 31);
    }

    /** Act 1 counts the turns from 1 on; before the first one it is 0, as told by nobody. */
    private static LoopLane counter() {
        LoopLane x = new LoopLane();
        x.put(1);
        x.reckon(1, 0, 0, 1, 1);
        return x;
    }

    private static void operandsOfFourTurnsBefore() {
        sentence("Terms 1", "Operands x, y, z are each the END of an ACT, of this TURN or of 1 .. 4 TURNS before;");
        for (int d = 0; d <= 4; d++) {
            LoopLane x = counter();
            x.put(0);
            x.row(0, 40, true);
            x.row(1, 40, true);
            x.row(2, 40, true);
            x.set(0, 20 - d, 77);
            due("as x", x.reckon(1, 1, d, 2, 0), 3);
            due("as y", x.reckon(1, 2, 0, 1, d), 4);
            due("as z", x.pick(2, 2, 1, d), 5);
            due("as a place to fetch", x.fetch(0, 1, d), 6);
            due("as a place to store", x.store(1, 1, d, 0, 0), 7);
            due("as what is stored", x.store(2, 2, 0, 1, d), 8);
            due("20 turns", x.run(20, false), 20);
            for (int a = 3; a <= 5; a++) {
                due("of " + d + " before, end(" + a + ")", x.end(a), 20 - d);
            }
            due("of " + d + " before, fetch", x.end(6), 77);
            due("of " + d + " before, store at", x.get(1, 20 - d), 1);
            due("of " + d + " before, not behind that", x.get(1, 21 - d), 0);
            due("of " + d + " before, store of", x.get(2, 0), 20 - d);
        }
        refused("of 5 before", Checks::lived, y -> y.reckon(1, 0, 5, 0, 0), NO);
        refused("of -1 before", Checks::lived, y -> y.reckon(1, 0, -1, 0, 0), NO);
    }

    private static void ownAndLaterOnesOnlyOfTurnsBefore() {
        sentence("Terms 1", "an ACT's own, or a later one's, only of TURNS before.");
        refused("its own", Checks::lived, y -> y.reckon(1, 4, 0, 0, 0), BEYOND);
        refused("a later one's", Checks::lived, y -> y.reckon(1, 0, 0, 5, 0), BEYOND);
        LoopLane x = puts(1);
        due("its own, of 1 before", x.reckon(1, 0, 0, 1, 1), 1);
        due("a later one's, of 1 before", x.reckon(1, 0, 0, 3, 1), 2);
        due("one's ahead, of this turn", x.reckon(1, 1, 0, 2, 0), 3);
        x.run(2, false);
        // turn 0: 100, 100, 200; turn 1: 200, 100 + 200, 500
        due("end(1)", x.end(1), 200);
        due("end(2)", x.end(2), 300);
        due("end(3)", x.end(3), 500);
    }

    private static void firstsAheadOfTheFirstTurn() {
        sentence("Terms 1", "Of TURNS before the first one an END is the ACT's FIRST, a long told (0 if not).");
        for (int d = 1; d <= 4; d++) {
            for (int told = 0; told <= 1; told++) {
                LoopLane x = counter();
                x.put(50);
                x.reckon(1, 2, d, 2, d);
                if (told == 1) {
                    x.first(2, Long.MIN_VALUE + 7);
                }
                x.run(d, false);
                due("of " + d + " before, in turn " + (d - 1), x.end(3), told == 1 ? 14 : 0);
                x.run(d + 1, false);
                due("of " + d + " before, in turn " + d, x.end(3), 100);
                x.lay();
                x.run(d + 10, true);
                due("laid, behind that", x.end(3), 100);
            }
        }
        LoopLane x = new LoopLane();
        x.put(5);
        x.reckon(1, 1, 1, 1, 4);
        x.first(1, 3);
        x.lay();
        due("laid in one stage, turn 0", x.run(2, true), 2);
        // turn 0: 3 + 3; turn 1: 6 + 3
        due("laid, end(1)", x.end(1), 9);
    }

    private static void slotsHaveRows() {
        sentence("Terms 1", "SLOTS 0 .. 7 have each nothing, a ROW of 1 .. 40 longs, or a ROW of as many ints, which is of another kind.");
        for (int s = 0; s <= 7; s++) {
            LoopLane x = new LoopLane();
            due("nothing in " + s, x.set(s, 0, 1), MISSING);
            due("ints in " + s, x.row(s, 1, false), 1);
            due("of another kind", x.set(s, 0, 1), KIND);
            due("40 ints in " + s, x.row(s, 40, false), 1);
            due("1 long in " + s, x.row(s, 1, true), 1);
            due("its place", x.set(s, 0, 1), 1);
            due("no other", x.set(s, 1, 1), BEYOND);
            due("40 longs in " + s, x.row(s, 40, true), 1);
            due("the last place", x.set(s, 39, 1), 1);
            due("no other", x.set(s, 40, 1), BEYOND);
            for (int other = 0; other <= 7; other++) {
                due("slot " + other, x.empty(other), other == s ? 1 : 0);
            }
        }
        refused("slot -1", Checks::lived, y -> y.row(-1, 1, true), BEYOND);
        refused("slot 8", Checks::lived, y -> y.row(8, 1, true), BEYOND);
        refused("0 longs", Checks::lived, y -> y.row(0, 0, true), NO);
        refused("41 longs", Checks::lived, y -> y.row(0, 41, true), NO);
        refused("0 ints", Checks::lived, y -> y.row(0, 0, false), NO);
        refused("41 ints", Checks::lived, y -> y.row(0, 41, false), NO);
    }

    /** Told(0) of one turn of a fetch or a store at a place; what is in its slot is made first. */
    private static int rowRefusal(boolean stores, long place, Making making) {
        LoopLane x = after(making);
        x.put(place);
        if (stores) {
            x.store(6, 0, 0, 0, 0);
        } else {
            x.fetch(6, 0, 0);
        }
        int whole = x.run(1, false);
        due("whole turns", whole, x.told(0) == 0 ? 1 : 0);
        due("the act", x.told(1), x.told(0) == 0 ? NONE : 1);
        return x.told(0);
    }

    private static void rowsRefuseInOrder() {
        sentence("Terms 1", "FETCH and STORE are refused: MISSING (nothing there), KIND (ints), BEYOND (no such place), in this order.");
        for (int i = 0; i <= 1; i++) {
            boolean stores = i == 1;
            due("nothing, and no such place", rowRefusal(stores, -1, Checks::nothing), MISSING);
            due("nothing any more", rowRefusal(stores, 0, y -> {
                y.row(6, 3, false);
                y.empty(6);
            }), MISSING);
            due("ints, and no such place", rowRefusal(stores, 3, y -> y.row(6, 3, false)), KIND);
            due("ints", rowRefusal(stores, 0, y -> y.row(6, 3, false)), KIND);
            long[] places = {-1, 3, Long.MIN_VALUE, Long.MAX_VALUE, 1L << 32, -(1L << 32), (1L << 32) + 1};
            for (long place : places) {
                due("place " + place, rowRefusal(stores, place, y -> y.row(6, 3, true)), BEYOND);
            }
            due("place 0", rowRefusal(stores, 0, y -> y.row(6, 3, true)), 0);
            due("place 2", rowRefusal(stores, 2, y -> y.row(6, 3, true)), 0);
            due("place 39 of 40", rowRefusal(stores, 39, y -> y.row(6, 40, true)), 0);
            due("place 40 of 40", rowRefusal(stores, 40, y -> y.row(6, 40, true)), BEYOND);
        }
    }

    private static void unitsOfEachKind() {
        sentence("Terms 1", "UNITS: of each kind 0 to 4; 1 at first.");
        for (int kind = 0; kind <= 5; kind++) {
            LoopLane x = new LoopLane();
            due("at first", x.unit(kind, 0), 1);
            for (int n = 1; n <= 4; n++) {
                due("unit(" + kind + ", " + n + ")", x.unit(kind, n), n - 1);
            }
            due("unit(" + kind + ", 0)", x.unit(kind, 0), 4);
            due("the others have 1", x.count(4), 5);
        }
        refused("5 units", Checks::lived, y -> y.unit(0, 5), NO);
        refused("-1 units", Checks::lived, y -> y.unit(0, -1), BELOW);
    }
}
