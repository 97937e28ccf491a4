/** Promises 33 to 38, sentence by sentence: runs and refusals. */
public final class Promises33To38Test extends Checks {
    private static final int[] FEW = {LEAST, -2, -1};
    private static final int[] MANY = {201, 202, MOST};

    public static void main(String[] args) {
        run();
        runRefused();
        compare();
        compareRefused();
        toldRefusal();
        toldBegun();
        toldTicks();
        toldByTicks();
        toldBefore();
        toldRefused();
        end();
        endRefused();
        again();
        againNothing();
        status();
        statusRefused();
        Due.finish("Promises33To38Test");
    }

    private static void told(LoopLane x, String name, int... want) {
        for (int what = 0; what < want.length; what++) {
            int asked = what;
            taken(name + ", told(" + what + ")", x, y -> y.told(asked), want[what]);
        }
    }

    /** Act 1 is the number of the turn, act 2 fetches at it: so many turns go as there are places. */
    private static void walks(LoopLane x, int places) {
        x.row(0, places, true);
        x.put(1);
        x.reckon(1, 0, 0, 1, 1);
        x.fetch(0, 1, 0);
        x.first(1, -1);
        x.works(1, 3, 1, 1);
        x.works(2, 2, 2, 1);
        x.lay();
    }

    private static void walksAndStores(LoopLane x, int places) {
        walks(x, places);
        x.row(1, 40, true);
        x.store(1, 0, 0, 1, 0);
        x.store(0, 1, 0, 0, 0);
        x.lay();
        x.set(0, 0, 7);
        x.set(1, 1, 8);
        x.run(2, false);
    }

    private static LoopLane walker(int places) {
        return after(x -> walks(x, places));
    }

    private static void notWhole(LoopLane x) {
        addPuts(x, 1);
        x.reckon(1, 0, 0, 2, 1);
    }

    private static void run() {
        sentence("Promise 33", "A RUN of n TURNS, LAID or PLAIN: how many TURNS were done whole.");
        for (int i = 0; i <= 1; i++) {
            boolean laid = i == 1;
            LoopLane x = walker(10);
            for (int n : new int[] {0, 1, 2, 9, 10, 11, 12, 199, 200}) {
                taken("run(" + n + ", " + laid + ")", x, y -> y.run(n, laid), Math.min(n, 10));
            }
            x.empty(0);
            taken("none whole", x, y -> y.run(200, laid), 0);
            x.row(0, 1, true);
            taken("one whole", x, y -> y.run(200, laid), 1);
            x.row(0, 40, true);
            taken("40 whole", x, y -> y.run(200, laid), 40);
        }
        LoopLane x = puts(1);
        taken("plain without a laying", x, y -> y.run(200, false), 200);
    }

    private static void runRefused() {
        sentence("Promise 33", "MISSING: no ACTS, not whole(), LAID without a LAYING; BELOW; NO: n above 200.");
        for (int i = 0; i <= 1; i++) {
            boolean laid = i == 1;
            for (int n : new int[] {LEAST, -1, 0, 1, 200, 201, MOST}) {
                refused("no acts, n " + n, Checks::nothing, y -> y.run(n, laid), MISSING);
                refused("not whole, n " + n, Promises33To38Test::notWhole, y -> y.run(n, laid), MISSING);
                refused("no laying, n " + n, Checks::unlaid, y -> y.run(n, true), MISSING);
            }
            for (int n : FEW) {
                refused("n " + n, Checks::lived, y -> y.run(n, laid), BELOW);
            }
            for (int n : MANY) {
                refused("n " + n, Checks::lived, y -> y.run(n, laid), NO);
            }
        }
        refused("plain, no laying, n -1", Checks::unlaid, y -> y.run(-1, false), BELOW);
        refused("plain, no laying, n 201", Checks::unlaid, y -> y.run(201, false), NO);
    }

    private static void compare() {
        sentence("Promise 34", "Both from the same ROWS, which stay: 1 if they come to the same (ROWS, refusal, TURNS done whole, ENDS of the last of these), else 0; nothing is told anew.");
        for (int places : new int[] {1, 10, 40}) {
            for (int n : new int[] {0, 1, 2, places - 1, places, places + 1, 200}) {
                LoopLane x = after(y -> walksAndStores(y, places));
                String before = rowsAndTold(x);
                taken("compare(" + n + ")", x, y -> y.compare(n), 1);
                Due.same("rows and what was told", rowsAndTold(x), before);
            }
        }
        everyRowStays();
        LoopLane x = walker(3);
        taken("nothing was run", x, y -> y.compare(200), 1);
        told(x, "nothing is told", 0, NONE, NONE, 0, 0, 0);
        due("nor an end", x.end(1), -1);
        x.forge(2, 0);
        x.check();
        taken("forged, it goes by the laying", x, y -> y.compare(200), 1);
    }

    /** Both runs store at the first and the last place of each slot. */
    private static void everyRowStays() {
        LoopLane x = new LoopLane();
        x.put(0);
        x.put(39);
        for (int s = 0; s < 7; s++) {
            x.row(s, 40, true);
            x.set(s, 0, 100 + s);
            x.set(s, 39, 200 + s);
            x.store(s, 0, 0, 1, 0);
            x.store(s, 1, 0, 0, 0);
        }
        due("lay()", x.lay(), 16);
        due("compare(20)", x.compare(20), 1);
        for (int s = 0; s < 7; s++) {
            due("get(" + s + ", 0)", x.get(s, 0), 100 + s);
            due("get(" + s + ", 39)", x.get(s, 39), 200 + s);
        }
        x.run(20, true);
        due("it does store", x.get(6, 39), 0);
        x = new LoopLane();
        x.row(7, 40, true);
        x.set(7, 39, 5);
        x.put(39);
        x.store(7, 0, 0, 0, 0);
        x.lay();
        due("compare(20)", x.compare(20), 1);
        due("get(7, 39)", x.get(7, 39), 5);
    }

    private static String rowsAndTold(LoopLane x) {
        StringBuilder seen = new StringBuilder();
        for (int i = 0; i < 40; i++) {
            seen.append(x.get(0, i)).append(' ').append(x.get(1, i)).append(' ');
        }
        for (int what = 0; what < 6; what++) {
            seen.append(x.told(what)).append(' ');
        }
        for (int a = 0; a < 5; a++) {
            seen.append(x.end(a)).append(' ');
        }
        x.again();
        return seen.toString();
    }

    private static void compareRefused() {
        sentence("Promise 34", "Refused as run() LAID.");
        for (int n : new int[] {LEAST, -1, 0, 1, 200, 201, MOST}) {
            refused("no acts, n " + n, Checks::nothing, y -> y.compare(n), MISSING);
            refused("not whole, n " + n, Promises33To38Test::notWhole, y -> y.compare(n), MISSING);
            refused("no laying, n " + n, Checks::unlaid, y -> y.compare(n), MISSING);
        }
        for (int n : FEW) {
            refused("n " + n, Checks::lived, y -> y.compare(n), BELOW);
        }
        for (int n : MANY) {
            refused("n " + n, Checks::lived, y -> y.compare(n), NO);
        }
    }

    private static void toldRefusal() {
        sentence("Promise 35", "Of the latest run(): the refusal, or 0 (what = 0), its ACT (1), TURN (2), or NONE;");
        for (int i = 0; i <= 1; i++) {
            boolean laid = i == 1;
            LoopLane x = walker(10);
            x.run(10, laid);
            told(x, "not refused", 0, NONE, NONE);
            x.run(11, laid);
            told(x, "no such place", BEYOND, 2, 10);
            x.row(0, 10, false);
            x.run(200, laid);
            told(x, "ints", KIND, 2, 0);
            x.empty(0);
            x.run(200, laid);
            told(x, "nothing there", MISSING, 2, 0);
            x.row(0, 40, true);
            x.run(40, laid);
            told(x, "not refused any more", 0, NONE, NONE);
            x.run(41, laid);
            x.run(0, laid);
            told(x, "of the latest one alone", 0, NONE, NONE);
            x = puts(1);
            x.reckon(1, 0, 0, 1, 1);
            x.first(1, -300);
            x.reckon(3, 0, 0, 1, 0);
            x.lay();
            x.run(200, laid);
            told(x, "division by 0", ZERO, 2, 2);
            x.first(1, -100);
            x.run(200, laid);
            told(x, "act 2 of turn 0", ZERO, 2, 0);
            x.first(1, -20000);
            x.run(200, laid);
            told(x, "turn 199", ZERO, 2, 199);
        }
    }

    private static void toldBegun() {
        sentence("Promise 35", "how many ACTS were begun (3; refused ones, too; in a LAID one also those behind a refusal that had begun),");
        LoopLane x = walker(10);
        x.run(0, false);
        due("plain, none", x.told(3), 0);
        x.run(10, false);
        due("plain, all", x.told(3), 30);
        x.run(11, false);
        due("plain, the refused one, too", x.told(3), 33);
        x.run(200, false);
        due("plain, none behind it", x.told(3), 33);
        due("laid: a beat of 3", x.laying(0), 3);
        due("act 1 begins at", x.tick(1, 2), 3);
        due("act 2 begins at", x.tick(2, 2), 6);
        x.run(10, true);
        due("laid, all", x.told(3), 30);
        x.run(200, true);
        // the fetch of turn 10 is refused at 36, when act 0 of turns 11 and 12 and act 1 of 11 had begun
        due("laid, also those behind it that had begun", x.told(3), 13 + 12 + 11);
        x.run(11, true);
        due("laid, there are none behind it", x.told(3), 33);
        x.run(12, true);
        due("laid, of one turn behind it", x.told(3), 12 + 12 + 11);
    }

    private static void toldTicks() {
        sentence("Promise 35", "TICKS: PLAIN the LAGS of all that were begun, LAID the last TICK at which one began and 1, 0 if none (4);");
        LoopLane x = walker(10);
        x.run(0, false);
        due("plain, none", x.told(4), 0);
        x.run(0, true);
        due("laid, none", x.told(4), 0);
        x.run(10, false);
        due("plain, 1 + 3 + 2 each turn", x.told(4), 60);
        x.run(200, false);
        due("plain, with the refused one", x.told(4), 66);
        x.run(10, true);
        due("laid, act 2 of turn 9 at 27 + 6", x.told(4), 34);
        x.run(200, true);
        due("laid, the refused one at 30 + 6", x.told(4), 37);
        x.run(2, true);
        due("run as plain: lags", x.told(4), 12);
        x = puts(2);
        x.edge(0, 0, 50, 1);
        x.lay();
        x.run(1, true);
        due("one turn, act 1 at tick 1", x.told(4), 2);
        x.run(200, true);
        due("the last tick, not the last beat", x.told(4), 199 * 50 + 2);
        x.edge(0, 0, 0, 0);
        x.edge(1, 0, 3, 0);
        x.lay();
        due("act 0 begins at 50", x.tick(0, 2), 50);
        x.run(2, true);
        due("act 0 of turn 1 at 100", x.told(4), 101);
    }

    private static void toldByTicks() {
        sentence("Promise 35", "1 if it was run LAID, by ticks (5).");
        LoopLane x = walker(10);
        due("stages", x.laying(1), 3);
        int[] want = {0, 0, 0, 1, 1};
        for (int n = 0; n < 5; n++) {
            x.run(n, true);
            due("laid, " + n + " turns of 3 stages", x.told(5), want[n]);
        }
        x.run(200, true);
        due("refused in it", x.told(5), 1);
        x.run(200, false);
        due("plain", x.told(5), 0);
    }

    private static void toldBefore() {
        sentence("Promise 35", "0, NONE, NONE, 0, 0, 0 before.");
        told(new LoopLane(), "a new object", 0, NONE, NONE, 0, 0, 0);
        LoopLane x = walker(3);
        told(x, "no run yet", 0, NONE, NONE, 0, 0, 0);
        x.run(-1, true);
        x.run(201, false);
        told(x, "refused ones are none", 0, NONE, NONE, 0, 0, 0);
        x.run(9, true);
        x.unit(5, 3);
        told(x, "what it told was taken away", 0, NONE, NONE, 0, 0, 0);
    }

    private static void toldRefused() {
        sentence("Promise 35", "NO.");
        for (int what : new int[] {LEAST, -1, 6, MOST}) {
            refused("told(" + what + ")", Checks::lived, y -> y.told(what), NO);
            refused("before, told(" + what + ")", Checks::nothing, y -> y.told(what), NO);
        }
    }

    private static void end() {
        sentence("Promise 36", "END of ACT a in the last TURN that the latest run() did whole; its FIRST if none.");
        for (int i = 0; i <= 1; i++) {
            boolean laid = i == 1;
            LoopLane x = walker(10);
            x.set(0, 9, -3);
            x.set(0, 0, 44);
            x.first(2, 5);
            taken("FIRST, before a run", x, y -> y.end(1), -1);
            taken("FIRST, before a run", x, y -> y.end(2), 5);
            taken("FIRST, 0 if not told", x, y -> y.end(0), 0);
            x.run(1, laid);
            due("the first turn, end(1)", x.end(1), 0);
            due("the first turn, end(2)", x.end(2), 44);
            x.run(10, laid);
            due("the tenth, end(0)", x.end(0), 1);
            due("the tenth, end(1)", x.end(1), 9);
            due("the tenth, end(2)", x.end(2), -3);
            x.run(200, laid);
            due("refused behind the tenth, end(1)", x.end(1), 9);
            due("refused behind the tenth, end(2)", x.end(2), -3);
            x.run(-1, laid);
            due("of a refused run() nothing", x.end(1), 9);
            x.run(0, laid);
            due("FIRST of no turns", x.end(1), -1);
            x.run(5, laid);
            x.empty(0);
            x.run(5, laid);
            due("FIRST if none was whole", x.end(2), 5);
            due("FIRST if none was whole, of one that was begun", x.end(0), 0);
        }
    }

    private static void endRefused() {
        sentence("Promise 36", "BEYOND: 0L, and status() tells of it.");
        for (int a : new int[] {LEAST, -1, 4, 15, 16, MOST}) {
            refusedLong("end(" + a + ")", Checks::lived, y -> y.end(a), BEYOND);
        }
        refusedLong("no acts", Checks::nothing, y -> y.end(0), BEYOND);
        refusedLong("act 16 of 16", Checks::full, y -> y.end(16), BEYOND);
        LoopLane x = after(Checks::full);
        taken("act 15 of 16", x, y -> y.end(15), 0);
    }

    private static void again() {
        sentence("Promise 37", "The latest refusal, of any call, is thrown once more: its answer, and there is none any more;");
        LoopLane x = new LoopLane();
        x.undo();
        due("of undo()", x.again(), MISSING);
        x.row(0, -1, true);
        x.number(3);
        due("of number(), the latest", x.again(), BEYOND);
        due("not the one before", x.again(), NOTHING);
        x.row(0, 2, false);
        x.get(0, 0);
        due("of get()", x.again(), KIND);
        x.end(0);
        due("of end()", x.again(), BEYOND);
        x.status(0);
        due("of status()", x.again(), NO);
        x.row(1, 2, true);
        x.copy(1, 0, 1, 0, 3);
        x.put(1);
        x.count(0);
        x.lay();
        x.run(3, true);
        x.status(COPY);
        due("calls that are taken leave it", x.again(), COPY);
        x.copy(1, 0, 1, 0, 3);
        x.copy(1, 0, 1, 0, 3);
        due("the same twice", x.again(), COPY);
        due("is one", x.again(), NOTHING);
        addPuts(x, 16);
        due("of put()", x.again(), FULL);
        x.fetch(7, 0, 0);
        x.undo();
        x.fetch(7, 0, 0);
        x.run(3, false);
        due("what is refused in a run", x.told(0), MISSING);
        due("is not refused to the call; FULL was", x.again(), FULL);
        x = puts(3);
        fix(x, 0, 2, 0);
        x.lay();
        due("of lay()", x.again(), SPENT);
        due("no more", x.again(), NOTHING);
    }

    private static void againNothing() {
        sentence("Promise 37", "NOTHING: there is none.");
        LoopLane x = new LoopLane();
        due("a new object", x.again(), NOTHING);
        due("NOTHING is not kept", x.again(), NOTHING);
        x.put(1);
        due("a call that was taken", x.again(), NOTHING);
        x.undo();
        x.undo();
        due("a refusal", x.again(), MISSING);
        due("none any more", x.again(), NOTHING);
        due("none any more", x.again(), NOTHING);
        due("NOTHING is counted nowhere", x.status(NOTHING), 0);
        due("the refusal once", x.status(MISSING), 1);
    }

    private static void status() {
        sentence("Promise 38", "How many calls were refused by an answer -2 .. -11 (of number, get, end: by what they tell).");
        LoopLane x = new LoopLane();
        for (int by = SPENT; by <= MISSING; by++) {
            int asked = by;
            taken("a new object, status(" + by + ")", x, y -> y.status(asked), 0);
        }
        for (int n = 1; n <= 30; n++) {
            x.undo();
            due("MISSING " + n, x.status(MISSING), n);
            x.number(9);
            x.get(9, 0);
            x.end(9);
            due("BEYOND " + n, x.status(BEYOND), 3 * n);
            x.unit(0, -1);
            due("BELOW " + n, x.status(BELOW), n);
        }
        x = new LoopLane();
        x.row(0, 2, true);
        x.row(1, 2, false);
        addPuts(x, 1);
        x.reckon(3, 0, 0, 0, 1);
        x.get(1, 0);
        x.number(1);
        x.set(1, 0, 0);
        due("KIND", x.status(KIND), 3);
        x.get(2, 0);
        due("MISSING", x.status(MISSING), 1);
        x.copy(0, 0, 0, 2, 1);
        due("COPY", x.status(COPY), 1);
        x.run(2, false);
        due("refused in a run", x.told(0), ZERO);
        due("ZERO is no call's", x.status(ZERO), 0);
        x.count(9);
        x.told(6);
        due("NO", x.status(NO), 2);
        addPuts(x, 17);
        due("FULL, three of 17", x.status(FULL), 3);
        x.again();
        x.again();
        due("again() is no refused call", x.status(FULL), 3);
        due("nor is NOTHING", x.status(NOTHING), 0);
        x = puts(3);
        fix(x, 0, 2, 0);
        x.lay();
        x.prove(60);
        due("SPENT, of lay() alone", x.status(SPENT), 1);
    }

    private static void statusRefused() {
        sentence("Promise 38", "NO: another number.");
        for (int by : new int[] {LEAST, -100, -12, -1, 0, 1, 2, 11, MOST}) {
            refused("status(" + by + ")", Checks::lived, y -> y.status(by), NO);
        }
        LoopLane x = new LoopLane();
        taken("status(-2)", x, y -> y.status(-2), 0);
        taken("status(-11)", x, y -> y.status(-11), 0);
        x.status(-12);
        x.status(-1);
        due("itself counts", x.status(NO), 2);
    }
}
