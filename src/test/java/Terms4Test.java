/** 'Terms' 4, sentence by sentence: runs. */
public final class Terms4Test extends Checks {
    public static void main(String[] args) {
        zeroToTwoHundredTurns();
        plainEndsAtTheFirstRefusal();
        laidGoesByTicksThenActs();
        placesGoRound();
        aheadOfARefusalAllIsDone();
        refusalsAheadTakeItsPlace();
        fewerTurnsThanStages();
        bothComeToTheSame();
        Due.finish("Terms4Test");
    }

    private static void told(LoopLane x, String name, int... want) {
        for (int what = 0; what < want.length; what++) {
            due(name + ", told(" + what + ")", x.told(what), want[what]);
        }
    }

    /** Act 1 is the number of the turn, from 0 on. */
    private static LoopLane counter() {
        LoopLane x = new LoopLane();
        x.put(1);
        x.reckon(1, 0, 0, 1, 1);
        x.first(1, -1);
        return x;
    }

    /** Every act has a unit of its own. */
    private static void ownUnits(LoopLane x) {
        for (int a = 0; a < x.count(0); a++) {
            x.works(a, 1, a, 1);
        }
    }

    private static void zeroToTwoHundredTurns() {
        sentence("Terms 4", "RUNS from ROWS as they are, of n TURNS (0 .. 200).");
        LoopLane x = counter();
        x.row(0, 1, true);
        x.put(0);
        x.fetch(0, 2, 0);
        x.reckon(1, 3, 0, 0, 0);
        x.store(0, 2, 0, 4, 0);
        x.lay();
        long sum = 0;
        for (int n : new int[] {0, 1, 2, 199, 200}) {
            for (int laid = 0; laid <= 1; laid++) {
                due(n + " turns", x.run(n, laid == 1), n);
                due(n + " turns, begun", x.told(3), 6 * n);
                due(n + " turns, end(1)", x.end(1), n - 1);
                sum += n;
                due(n + " turns more in the row", x.get(0, 0), sum);
            }
        }
        for (int laid = 0; laid <= 1; laid++) {
            boolean byTicks = laid == 1;
            refused("-1 turns", Checks::lived, y -> y.run(-1, byTicks), BELOW);
            refused("201 turns", Checks::lived, y -> y.run(201, byTicks), NO);
        }
        x = new LoopLane();
        x.put(0);
        x.store(3, 0, 0, 0, 0);
        x.run(1, false);
        told(x, "nothing in the slot", MISSING, 1, 0);
        x.row(3, 1, true);
        x.run(1, false);
        told(x, "now there is", 0, NONE, NONE);
    }

    private static void plainEndsAtTheFirstRefusal() {
        sentence("Terms 4", "PLAIN: TURN by TURN, ACT by ACT in order; at the first refusal it ends: what was done ahead of it stays.");
        LoopLane x = counter();
        x.row(0, 40, true);
        x.row(1, 3, true);
        x.row(2, 40, true);
        x.store(0, 1, 0, 1, 0);
        x.fetch(1, 1, 0);
        x.store(2, 1, 0, 1, 0);
        due("3 places", x.run(9, false), 3);
        told(x, "the fetch of turn 3", BEYOND, 3, 3, 3 * 5 + 4, 3 * 5 + 4, 0);
        due("ahead of it, in its turn", x.get(0, 3), 3);
        due("not behind its turn", x.get(0, 4), 0);
        due("behind it, in the turn before", x.get(2, 2), 2);
        due("not behind it, in its turn", x.get(2, 3), 0);
        x = new LoopLane();
        x.put(0);
        x.reckon(3, 0, 0, 0, 0);
        x.fetch(0, 0, 0);
        due("of two refused ones", x.run(1, false), 0);
        told(x, "the first", ZERO, 1, 0, 2, 2, 0);
        x = counter();
        x.row(0, 3, true);
        x.fetch(0, 1, 0);
        due("the last turn is the last that goes", x.run(3, false), 3);
        told(x, "none is refused", 0, NONE, NONE, 9, 9, 0);
        due("one more", x.run(4, false), 3);
        told(x, "is refused", BEYOND, 2, 3, 12, 12, 0);
    }

    /**
     * At a beat of 1 act a of turn t begins at t + a. At tick 5 acts 0 and 1 of turns 5 and 4 begin,
     * act 2 of turn 3, which is refused, and then act 3 of turn 2, which stands ahead of it by its turn
     * and is refused as well.
     */
    private static void laidGoesByTicksThenActs() {
        sentence("Terms 4", "LAID: TICK by TICK, ACT by ACT in order of those that begin then;");
        LoopLane x = counter();
        x.row(0, 3, true);
        x.row(1, 2, true);
        x.fetch(0, 1, 0);
        x.fetch(1, 1, 0);
        x.edge(2, 3, 1, 0);
        ownUnits(x);
        due("lay()", x.lay(), 1);
        for (int a = 0; a < 4; a++) {
            due("tick(" + a + ", 2)", x.tick(a, 2), a);
        }
        due("two turns", x.run(10, true), 2);
        told(x, "acts by their numbers, not by their turns", BEYOND, 3, 2, 1 + 2 + 3 + 4 + 4 + 4, 6, 1);
        x = counter();
        x.row(0, 40, true);
        x.put(0);
        x.store(0, 2, 0, 1, 0);
        x.fetch(0, 2, 0);
        ownUnits(x);
        x.edge(3, 4, 2, 0);
        x.edge(3, 3, 3, 1);
        due("lay()", x.lay(), 3);
        due("the fetch of a turn is behind its store", x.run(20, true), 20);
        due("the fetch of the last turn", x.end(4), 19);
        due("the store of the last turn", x.end(3), 18);
    }

    private static void placesGoRound() {
        sentence("Terms 4", "an END has as many places as told by names(), TURN t's being t modulo these.");
        for (int d = 0; d <= 4; d++) {
            LoopLane x = counter();
            x.put(100);
            x.reckon(1, 1, d, 2, 0);
            ownUnits(x);
            x.works(1, 1, 1, 1);
            x.edge(1, 3, 3, 0);
            due("lay()", x.lay(), 1);
            due("names(1)", x.names(1), Math.max(d + 3, 2) + 1);
            for (int n = 5; n <= 12; n++) {
                due(n + " turns", x.run(n, true), n);
                due(n + " turns by ticks", x.told(5), 1);
                due("of " + d + " before", x.end(3), 100 + Math.max(-1, n - 1 - d));
            }
        }
        LoopLane x = counter();
        x.reckon(2, 1, 0, 1, 4);
        ownUnits(x);
        x.edge(2, 2, 12, 1);
        due("lay()", x.lay(), 12);
        due("a life of 24 + 4 * 12 - 12", x.names(1), 6);
        x.run(50, true);
        due("this turn and the fourth before", x.end(2), 49 * 45);
    }

    /** The store of turn 4 begins behind the fetch of turn 5, which is refused, and is still done. */
    private static void aheadOfARefusalAllIsDone() {
        sentence("Terms 4", "What is refused is kept, ACTS that stand behind it (by TURNS, then in the body) are not begun any more,");
        LoopLane x = counter();
        x.row(0, 5, true);
        x.row(1, 40, true);
        x.fetch(0, 1, 0);
        x.store(1, 1, 0, 1, 0);
        x.put(3);
        ownUnits(x);
        x.edge(2, 3, 4, 0);
        due("lay()", x.lay(), 1);
        int[] begins = {0, 1, 2, 6, 0};
        for (int a = 0; a < 5; a++) {
            due("tick(" + a + ", 2)", x.tick(a, 2), begins[a]);
        }
        due("5 turns are done", x.run(30, true), 5);
        // the fetch of turn 5 is refused at tick 7: act 0 of turns 0 .. 7, act 1 of 0 .. 6, act 2 of
        // 0 .. 5, act 3 of 0 and 1; act 4 of 0 .. 6 only, since at tick 7 it comes behind the fetch;
        // then act 3 of turns 2, 3, 4 at ticks 8, 9, 10
        told(x, "laid", BEYOND, 2, 5, 8 + 7 + 6 + 2 + 7 + 3, 11, 1);
        for (int i = 0; i < 40; i++) {
            due("stored in turns ahead of it, get(1, " + i + ")", x.get(1, i), i < 5 ? i : 0);
        }
        due("end(0), which the turns behind have made anew", x.end(0), 1);
        due("end(1), which the turns behind have made anew", x.end(1), 4);
        due("end(3)", x.end(3), 0);
    }

    private static void refusalsAheadTakeItsPlace() {
        sentence("Terms 4", "those ahead are, till all of them are through: the first one refused, in that order, ends it.");
        LoopLane x = counter();
        x.row(0, 3, true);
        x.put(0);
        x.reckon(3, 0, 0, 2, 0);
        x.fetch(5, 2, 0);
        ownUnits(x);
        x.edge(0, 3, 5, 0);
        x.edge(0, 4, 2, 0);
        due("lay()", x.lay(), 1);
        due("none is done", x.run(20, true), 0);
        // the fetch of turn 0 is refused at 2, the division of turn 0, ahead in the body, at 5; acts 0,
        // 1, 2 of turns 1, 2 have begun at 0 .. 2 ahead of the fetch in the order of the body
        told(x, "in the body", ZERO, 3, 0, 3 + 2 + 3 + 1 + 1, 6, 1);
        x = counter();
        x.row(0, 8, true);
        x.row(1, 6, true);
        x.row(2, 7, true);
        x.fetch(0, 1, 0);
        x.fetch(1, 1, 0);
        x.fetch(2, 1, 0);
        ownUnits(x);
        x.edge(1, 3, 9, 0);
        x.edge(1, 4, 4, 0);
        due("lay()", x.lay(), 1);
        due("6 are done", x.run(40, true), 6);
        // act 2, begin 2, is refused in turn 8 at 10; act 4, begin 5, in turn 7 at 12, ahead by its turn;
        // act 3, begin 10, in turn 6 at 16, ahead again: of act 0 11, 1 10, 2 9, 4 8, and 3 of 0 .. 6
        told(x, "by turns", BEYOND, 3, 6, 11 + 10 + 9 + 8 + 7, 17, 1);
        x = counter();
        x.row(0, 3, true);
        x.fetch(0, 1, 0);
        x.fetch(0, 1, 0);
        ownUnits(x);
        due("lay()", x.lay(), 1);
        x.run(10, true);
        told(x, "two at one tick: the first in the body, the other is not begun", BEYOND, 2, 3, 6 + 5 + 4 + 3, 6, 1);
    }

    private static void fewerTurnsThanStages() {
        sentence("Terms 4", "With n below the STAGES (1 and the greatest STAGE) it is run as PLAIN.");
        for (int ticks = 0; ticks <= 50; ticks += 10) {
            LoopLane x = apart(2);
            x.works(1, 7, 1, 1);
            x.edge(0, 1, ticks, 0);
            due("lay()", x.lay(), 1);
            due("stages", x.laying(1), 1 + ticks);
            for (int n = Math.max(0, ticks - 1); n <= ticks + 2; n++) {
                due("run", x.run(n, true), n);
                boolean byTicks = n >= 1 + ticks;
                told(x, n + " turns, " + (1 + ticks) + " stages", 0, NONE, NONE, 2 * n,
                        byTicks ? n + ticks : 8 * n, byTicks ? 1 : 0);
            }
        }
        LoopLane x = puts(1);
        x.edge(0, 0, 9, 1);
        x.lay();
        due("one stage, 0 turns", x.run(0, true), 0);
        told(x, "0 turns", 0, NONE, NONE, 0, 0, 0);
        due("one stage, 1 turn", x.run(1, true), 1);
        told(x, "1 turn", 0, NONE, NONE, 1, 1, 1);
    }

    private static void bothComeToTheSame() {
        sentence("Terms 4", "Both come to the same ROWS, ENDS of the last TURN that was done, refusal.");
        for (int places = 1; places <= 40; places += 3) {
            for (int n : new int[] {0, 1, places, places + 1, 200}) {
                LoopLane plain = both(places);
                LoopLane laid = both(places);
                due("compare(" + n + ")", laid.compare(n), 1);
                due("run(" + n + ", true)", laid.run(n, true), plain.run(n, false));
                for (int what = 0; what < 3; what++) {
                    due("told(" + what + ")", laid.told(what), plain.told(what));
                }
                due("refused or not", plain.told(0), n > places ? BEYOND : 0);
                for (int a = 0; a < 6; a++) {
                    due("end(" + a + ")", laid.end(a), plain.end(a));
                }
                for (int i = 0; i < 40; i++) {
                    due("get(0, " + i + ")", laid.get(0, i), plain.get(0, i));
                    due("get(1, " + i + ")", laid.get(1, i), plain.get(1, i));
                }
            }
        }
    }

    private static LoopLane both(int places) {
        LoopLane x = counter();
        x.row(0, places, true);
        x.row(1, 40, true);
        x.fetch(0, 1, 0);
        x.reckon(1, 2, 0, 3, 1);
        x.store(0, 1, 0, 3, 0);
        x.reckon(2, 3, 0, 4, 2);
        x.set(0, 0, 13);
        x.first(3, 8);
        x.works(3, 12, 1, 3);
        x.works(2, 7, 2, 5);
        x.lay();
        return x;
    }
}
