/** Promises 21 to 32, sentence by sentence: beats. */
public final class Promises21To32Test extends Checks {
    private static final int[] NO_ACTS = {LEAST, -1, 4, 15, 16, MOST};

    public static void main(String[] args) {
        lowest();
        lowestRefused();
        lay();
        layRefused();
        layRefusedLeavesTheLaying();
        prove();
        proveRefused();
        trials();
        laying();
        layingRefused();
        tick();
        firstAndLastTick();
        tickRefused();
        filled();
        filledRefused();
        names();
        lives();
        namesRefused();
        fewest();
        fewestRefused();
        forge();
        forgeRefused();
        forgeEnds();
        check();
        checkRefused();
        wrongEdge();
        wrongUnits();
        wrongRefused();
        Due.finish("Promises21To32Test");
    }

    private static void unwhole(LoopLane x) {
        addPuts(x, 1);
        x.reckon(1, 0, 0, 2, 1);
    }

    private static void noUnits(LoopLane x) {
        addPuts(x, 2);
        x.unit(0, 0);
    }

    private static void ringOf61(LoopLane x) {
        addPuts(x, 2);
        x.edge(0, 1, 30, 0);
        x.edge(1, 0, 31, 1);
    }

    private static void ringOfNoTurns(LoopLane x) {
        addPuts(x, 2);
        x.edge(0, 1, 1, 0);
        x.edge(1, 0, 0, 0);
    }

    /** Both acts must be at one tick, of one unit. */
    private static void bothAtOneTick(LoopLane x) {
        addPuts(x, 2);
        fix(x, 0, 1, 0);
    }

    /** As bothAtOneTick(), with an act between them whose ticks are all tried. */
    private static void spent(LoopLane x) {
        addPuts(x, 3);
        fix(x, 0, 2, 0);
    }

    private static void lowest() {
        sentence("Promise 21", "THE LOWEST beat.");
        taken("1", puts(1), LoopLane::lowest, 1);
        taken("16 by units", puts(16), LoopLane::lowest, 16);
        LoopLane x = puts(16);
        x.edge(3, 3, 50, 3);
        taken("17 by a ring", x, LoopLane::lowest, 17);
        x = apart(2);
        x.edge(0, 1, 30, 0);
        x.edge(1, 0, 30, 1);
        taken("60", x, LoopLane::lowest, 60);
        x = after(Promises21To32Test::bothAtOneTick);
        taken("the lowest, though there is no laying", x, LoopLane::lowest, 2);
        due("it is not laid by that", x.laying(0), MISSING);
    }

    private static void lowestRefused() {
        sentence("Promise 21", "MISSING: no ACTS, or the BODY is not whole(); NO: there is none.");
        refused("no acts", Checks::nothing, LoopLane::lowest, MISSING);
        refused("not whole", Promises21To32Test::unwhole, LoopLane::lowest, MISSING);
        refused("none by units", Promises21To32Test::noUnits, LoopLane::lowest, NO);
        refused("61 by a ring", Promises21To32Test::ringOf61, LoopLane::lowest, NO);
        refused("none by a ring", Promises21To32Test::ringOfNoTurns, LoopLane::lowest, NO);
        refused("not whole ahead of none", x -> {
            noUnits(x);
            x.reckon(1, 0, 0, 15, 1);
        }, LoopLane::lowest, MISSING);
    }

    private static void lay() {
        sentence("Promise 22", "LAYING OUT: the BEAT.");
        taken("1", puts(1), LoopLane::lay, 1);
        taken("16", puts(16), LoopLane::lay, 16);
        LoopLane x = puts(2);
        x.works(0, 1, 0, 0b101);
        x.works(1, 1, 0, 0b1001);
        due("the lowest", x.lowest(), 4);
        taken("above the lowest", x, LoopLane::lay, 5);
        due("laying(0)", x.laying(0), 5);
        taken("once more", x, LoopLane::lay, 5);
        x.works(1, 1, 0, 0b101);
        taken("anew", x, LoopLane::lay, 4);
        due("laying(0)", x.laying(0), 4);
    }

    private static void layRefused() {
        sentence("Promise 22", "MISSING, NO, as lowest(), or no B to 60; SPENT.");
        refused("no acts", Checks::nothing, LoopLane::lay, MISSING);
        refused("not whole", Promises21To32Test::unwhole, LoopLane::lay, MISSING);
        refused("none by units", Promises21To32Test::noUnits, LoopLane::lay, NO);
        refused("61 by a ring", Promises21To32Test::ringOf61, LoopLane::lay, NO);
        refused("none by a ring", Promises21To32Test::ringOfNoTurns, LoopLane::lay, NO);
        LoopLane x = after(Promises21To32Test::bothAtOneTick);
        due("no beat to 60", x.lay(), NO);
        due("no beat to 60, status(NO)", x.status(NO), 1);
        due("no beat to 60, again()", x.again(), NO);
        x = after(Promises21To32Test::spent);
        due("spent", x.lay(), SPENT);
        due("spent, status(SPENT)", x.status(SPENT), 1);
        due("spent, status(NO)", x.status(NO), 0);
        due("spent, again()", x.again(), SPENT);
    }

    /**
     * The same body and units come to the same laying, and all that changes them takes it away: no
     * lay() can be refused while there is a laying. What can be seen is that none comes of a refused
     * one, and that one found again is as it was.
     */
    private static void layRefusedLeavesTheLaying() {
        sentence("Promise 22", "(Refused it leaves the LAYING that was.)");
        LoopLane x = after(Promises21To32Test::bothAtOneTick);
        x.lay();
        due("no laying", x.laying(0), MISSING);
        x = after(Promises21To32Test::spent);
        x.lay();
        due("no laying", x.laying(0), MISSING);
        due("nor ticks", x.tick(0, 0), MISSING);
        x = puts(3);
        x.lay();
        x.prove(60);
        x.prove(61);
        due("prove() leaves it", x.laying(0), 3);
        due("prove() leaves it", x.tick(2, 0), 2);
        x.lay();
        due("as it was", x.tick(2, 0), 2);
    }

    private static void prove() {
        sentence("Promise 23", "What speaks against a BEAT b: 0 nothing (a LAYING was found by TRIALS at b alone, 3000 at most), 1 a kind of UNITS, 2 a RING, 3 all TRIALS are through without one, 4 SPENT; the first of 1, 2 that holds.");
        LoopLane x = puts(5);
        for (int b = 1; b <= 60; b++) {
            int beat = b;
            taken("5 acts at " + b, x, y -> y.prove(beat), b < 5 ? 1 : 0);
            due("trials at " + b + " alone", x.trials(), b < 5 ? 0 : 15);
        }
        x.edge(0, 0, 7, 1);
        for (int b = 1; b <= 60; b++) {
            due("and a ring, at " + b, x.prove(b), b < 5 ? 1 : b < 7 ? 2 : 0);
        }
        x = puts(1);
        x.works(0, 1, 0, 0b100010001);
        x.works(0, 1, 0, 0b10001);
        due("2 bits at 1", x.prove(1), 1);
        due("bits 0 and 4 at 2", x.prove(2), 3);
        due("bits 0 and 4 at 3", x.prove(3), 0);
        due("bits 0 and 4 at 4", x.prove(4), 3);
        due("bits 0 and 4 at 5", x.prove(5), 0);
        x = after(Promises21To32Test::spent);
        // at b there are 1 + b + (b - 1) * b trials till all are through
        due("at 54 all are through", x.prove(54), 3);
        due("trials", x.trials(), 1 + 54 * 54);
        due("at 55 they are spent", x.prove(55), 4);
        due("trials", x.trials(), 3000);
        due("that is no refusal", x.again(), NOTHING);
        due("that is no refusal", x.status(SPENT), 0);
        x = after(Promises21To32Test::noUnits);
        due("no units at 60", x.prove(60), 1);
        x = after(Promises21To32Test::ringOf61);
        due("a ring of 61 at 60", x.prove(60), 2);
        due("it has units at 2", x.prove(2), 2);
        due("not at 1", x.prove(1), 1);
        x = puts(2);
        due("below a beat that was proved", x.prove(9), 0);
        due("it is not laid by that", x.laying(0), MISSING);
    }

    private static void proveRefused() {
        sentence("Promise 23", "MISSING as lowest(); BELOW: b is below 0; NO: 0 or above 60.");
        for (int b : new int[] {LEAST, -1, 0, 1, 60, 61, MOST}) {
            refused("no acts, prove(" + b + ")", Checks::nothing, y -> y.prove(b), MISSING);
            refused("not whole, prove(" + b + ")", Promises21To32Test::unwhole, y -> y.prove(b), MISSING);
        }
        for (int b : new int[] {LEAST, -2, -1}) {
            refused("prove(" + b + ")", Checks::livedWithoutTrials, y -> y.prove(b), BELOW);
        }
        for (int b : new int[] {0, 61, 62, MOST}) {
            refused("prove(" + b + ")", Checks::livedWithoutTrials, y -> y.prove(b), NO);
        }
        taken("prove(1)", puts(1), y -> y.prove(1), 0);
        taken("prove(60)", puts(1), y -> y.prove(60), 0);
    }

    private static void trials() {
        sentence("Promise 24", "TRIALS that the latest lay() or prove() made, also where it was refused behind them (0 where it made none, or there was none).");
        LoopLane x = puts(4);
        taken("there was none", x, LoopLane::trials, 0);
        x.lay();
        taken("lay(): 1 + 2 + 3 + 4", x, LoopLane::trials, 10);
        due("asked again", x.trials(), 10);
        x.prove(3);
        due("prove() made none, by units", x.trials(), 0);
        x.prove(4);
        due("prove()", x.trials(), 10);
        x.edge(0, 0, 5, 1);
        due("they stay when the laying goes", x.trials(), 10);
        x.prove(4);
        due("prove() made none, by a ring", x.trials(), 0);
        x.prove(5);
        x.prove(0);
        due("prove() was refused, NO", x.trials(), 0);
        x.prove(5);
        x.prove(-1);
        due("prove() was refused, BELOW", x.trials(), 0);
        x.lay();
        x.lowest();
        x.run(3, true);
        x.compare(3);
        x.check();
        due("no other call changes them", x.trials(), 10);
        x.unit(0, 0);
        x.lay();
        due("lay() was refused, NO ahead of them", x.trials(), 0);
        x.unit(0, 1);
        x.lay();
        x.reckon(1, 0, 0, 15, 1);
        due("they stay when an act comes", x.trials(), 10);
        x.lay();
        due("lay() was refused, MISSING", x.trials(), 0);
        x = after(Promises21To32Test::bothAtOneTick);
        x.lay();
        // at each of 2 .. 60 act 0 once and act 1 at each tick
        due("lay() was refused behind them, NO", x.trials(), 59 + 60 * 61 / 2 - 1);
        x = after(Promises21To32Test::spent);
        x.lay();
        due("lay() was refused behind them, SPENT", x.trials(), 3000);
        x.prove(2);
        due("of the latest one alone", x.trials(), 0);
        x.prove(3);
        due("of the latest one alone", x.trials(), 10);
    }

    private static void laying() {
        sentence("Promise 25", "Of the LAYING: its BEAT (what = 0), STAGES (1), when the last ACT ends: the greatest of begin and LAG (2).");
        LoopLane x = puts(1);
        x.lay();
        taken("beat 1", x, y -> y.laying(0), 1);
        taken("1 stage", x, y -> y.laying(1), 1);
        taken("0 + 1", x, y -> y.laying(2), 1);
        x = apart(3);
        x.works(0, 12, 0, 1);
        x.edge(0, 1, 11, 0);
        x.edge(0, 2, 4, 0);
        x.works(2, 9, 2, 1);
        x.lay();
        due("beat", x.laying(0), 1);
        due("stages", x.laying(1), 12);
        due("0 + 12, 11 + 1, 4 + 9", x.laying(2), 13);
        x.works(1, 2, 1, 1);
        x.lay();
        due("0 + 12, 11 + 2, 4 + 9", x.laying(2), 13);
        x.works(1, 3, 1, 1);
        x.lay();
        due("0 + 12, 11 + 3, 4 + 9", x.laying(2), 14);
        x.forge(1, 2000);
        due("not as forged", x.laying(2), 14);
        x.edge(0, 0, 6, 1);
        x.lay();
        due("beat", x.laying(0), 6);
        // act 1 at tick 0 of stage 2, act 2 at tick 0 of stage 1
        due("stages", x.laying(1), 3);
        due("12 + 3, 6 + 9", x.laying(2), 15);
    }

    private static void layingRefused() {
        sentence("Promise 25", "MISSING; NO: another what.");
        for (int what = -1; what <= 3; what++) {
            int asked = what;
            refused("no laying, laying(" + what + ")", Checks::unlaid, y -> y.laying(asked), MISSING);
        }
        for (int what : new int[] {LEAST, -1, 3, MOST}) {
            refused("laying(" + what + ")", Checks::lived, y -> y.laying(what), NO);
        }
        refused("a new object", Checks::nothing, y -> y.laying(0), MISSING);
    }

    private static void tick() {
        sentence("Promise 26", "ACT a's TICK (what = 0), STAGE (1), begin (2),");
        LoopLane x = puts(16);
        x.edge(0, 15, 49, 0);
        x.edge(3, 0, 50, 0);
        x.lay();
        int beat = x.laying(0);
        due("beat", beat, 16);
        for (int a = 0; a < 16; a++) {
            int stage = a == 0 ? 4 : a == 15 ? 7 : 0;
            int act = a;
            taken("tick(" + a + ", 0)", x, y -> y.tick(act, 0), a);
            taken("tick(" + a + ", 1)", x, y -> y.tick(act, 1), stage);
            taken("tick(" + a + ", 2)", x, y -> y.tick(act, 2), 16 * stage + a);
        }
        x.forge(15, 3);
        due("not as forged", x.tick(15, 2), 16 * 7 + 15);
    }

    private static void bounds(LoopLane x, int a, int early, int late) {
        taken("tick(" + a + ", 3)", x, y -> y.tick(a, 3), early);
        taken("tick(" + a + ", 4)", x, y -> y.tick(a, 4), late);
    }

    private static void firstAndLastTick() {
        sentence("Promise 26", "first and last TICK at which it might begin by EDGES alone, all beginning at 0 at least and none later than the latest begin that these ask for (3, 4), in the LAYING's BEAT.");
        LoopLane x = puts(1);
        x.lay();
        bounds(x, 0, 0, 0);
        x = apart(5);
        x.edge(0, 1, 10, 0);
        x.edge(1, 2, 20, 0);
        x.edge(0, 3, 3, 0);
        x.edge(3, 2, -1, 0);
        due("beat", x.lay(), 1);
        bounds(x, 0, 0, 0);
        bounds(x, 1, 10, 10);
        bounds(x, 2, 30, 30);
        bounds(x, 3, 3, 30);
        bounds(x, 4, 0, 30);
        x.edge(3, 2, 5, 0);
        x.lay();
        bounds(x, 3, 3, 25);
        x.edge(4, 0, -50, 0);
        x.lay();
        bounds(x, 4, 0, 30);
        x.edge(2, 4, 0, 3);
        due("beat", x.lay(), 1);
        bounds(x, 4, 27, 30);
        x.edge(0, 0, 8, 1);
        due("a beat of 8: 30 - 3 * 8", x.lay(), 8);
        bounds(x, 4, 6, 30);
        bounds(x, 2, 30, 30);
        x = puts(4);
        x.edge(0, 1, 2, 0);
        due("units make them later, edges do not ask for that", x.lay(), 4);
        bounds(x, 0, 0, 0);
        bounds(x, 1, 2, 2);
        bounds(x, 3, 0, 2);
        due("act 3 was laid at 3", x.tick(3, 2), 3);
        x = apart(2);
        x.edge(1, 0, 7, 0);
        x.lay();
        bounds(x, 0, 7, 7);
        bounds(x, 1, 0, 0);
        x.edge(0, 1, -7, 0);
        x.edge(0, 1, -50, 4);
        x.lay();
        bounds(x, 0, 7, 7);
        bounds(x, 1, 0, 0);
        x = apart(4);
        x.edge(2, 1, 3, 0);
        x.edge(1, 0, 4, 0);
        x.edge(3, 1, -2, 0);
        x.lay();
        bounds(x, 2, 0, 0);
        bounds(x, 1, 3, 3);
        bounds(x, 0, 7, 7);
        bounds(x, 3, 0, 5);
    }

    private static void tickRefused() {
        sentence("Promise 26", "MISSING; BEYOND: no such ACT; NO.");
        refused("no laying", Checks::unlaid, y -> y.tick(0, 0), MISSING);
        refused("no laying, no such act", Checks::unlaid, y -> y.tick(-1, 9), MISSING);
        for (int a : NO_ACTS) {
            refused("tick(" + a + ", 0)", Checks::lived, y -> y.tick(a, 0), BEYOND);
            refused("tick(" + a + ", 5)", Checks::lived, y -> y.tick(a, 5), BEYOND);
        }
        for (int what : new int[] {LEAST, -1, 5, MOST}) {
            refused("tick(3, " + what + ")", Checks::lived, y -> y.tick(3, what), NO);
        }
        refused("act 16 of 16", Checks::full, y -> y.tick(16, 0), BEYOND);
    }

    private static void filled() {
        sentence("Promise 27", "How many units of a kind are filled at a TICK of the LAYING, 0 .. B - 1.");
        LoopLane x = puts(5);
        x.unit(0, 4);
        x.works(4, 1, 5, 0b1011);
        x.edge(0, 0, 3, 1);
        due("act 4 is at 0, 1, 3: of 3 ticks twice at 0", x.lay(), 4);
        x.unit(5, 2);
        due("of two units that goes", x.lay(), 3);
        int[][] want = {{4, 0, 0}, {0, 0, 0}, {0, 0, 0}, {0, 0, 0}, {0, 0, 0}, {2, 1, 0}};
        for (int kind = 0; kind <= 5; kind++) {
            for (int t = 0; t < 3; t++) {
                int k = kind;
                int tick = t;
                taken("filled(" + kind + ", " + t + ")", x, y -> y.filled(k, tick), want[kind][t]);
            }
        }
        x = apart(2);
        x.edge(0, 1, 30, 0);
        x.edge(1, 0, 30, 1);
        x.lay();
        taken("tick 59 of 60", x, y -> y.filled(1, 59), 0);
        taken("tick 30 of 60", x, y -> y.filled(1, 30), 1);
        x.forge(1, 59);
        due("not as forged", x.filled(1, 30), 1);
    }

    private static void filledRefused() {
        sentence("Promise 27", "MISSING; BEYOND: kind, TICK.");
        refused("no laying", Checks::unlaid, y -> y.filled(0, 0), MISSING);
        refused("no laying, no such kind", Checks::unlaid, y -> y.filled(6, -1), MISSING);
        for (int kind : new int[] {LEAST, -1, 6, MOST}) {
            refused("filled(" + kind + ", 0)", Checks::full, y -> y.filled(kind, 0), BEYOND);
        }
        for (int t : new int[] {LEAST, -1, 16, 17, 59, 60, MOST}) {
            refused("filled(0, " + t + ") of 16", Checks::full, y -> y.filled(0, t), BEYOND);
        }
        LoopLane x = after(Checks::full);
        taken("filled(0, 15) of 16", x, y -> y.filled(0, 15), 1);
        x = puts(1);
        x.lay();
        taken("filled(5, 0) of 1", x, y -> y.filled(5, 0), 0);
        due("filled(5, 1) of 1", x.filled(5, 1), BEYOND);
    }

    /** Act 1, at a begin told, takes the end of act 0 of so many turns before, at a beat of 5. */
    private static LoopLane living(int begin, int turns) {
        LoopLane x = puts(1);
        x.reckon(1, 0, turns, 0, turns);
        x.works(1, 1, 1, 1);
        x.edge(0, 0, 5, 1);
        fix(x, 0, 1, begin);
        due("lay()", x.lay(), 5);
        due("begin", x.tick(1, 2) - x.tick(0, 2), begin);
        return x;
    }

    private static void names() {
        sentence("Promise 28", "How many places ACT a's END must have: its LIFE divided by B, cut, and 1;");
        for (int begin = 1; begin <= 20; begin++) {
            taken("a life of " + begin, living(begin, 0), y -> y.names(0), begin / 5 + 1);
        }
        for (int turns = 0; turns <= 4; turns++) {
            taken("a life of 4 + 5 * " + turns, living(4, turns), y -> y.names(0), turns + 1);
            taken("a life of 5 + 5 * " + turns, living(5, turns), y -> y.names(0), turns + 2);
            if (turns > 0) {
                taken("a life of -4 + 5 * " + turns, living(-4, turns), y -> y.names(0), turns);
            }
        }
        LoopLane x = living(9, 0);
        x.forge(1, 2000);
        due("not as forged", x.names(0), 2);
    }

    private static void lives() {
        sentence("Promise 28", "LIFE: the greatest of begin of b + B * TURNS - begin of a, of all operands that are its END, 0 without any.");
        LoopLane x = apart(2);
        x.edge(0, 1, 50, 0);
        x.lay();
        due("no operands, though an edge", x.names(0), 1);
        due("no operands", x.names(1), 1);
        x = puts(1);
        x.reckon(1, 0, 0, 0, 3);
        x.fetch(0, 0, 1);
        x.pick(1, 1, 0, 2);
        for (int a = 0; a < 4; a++) {
            x.works(a, 1, a, 1);
        }
        x.edge(1, 2, 6, 0);
        due("lay()", x.lay(), 1);
        // begins 0, 1, 7, 2: 1, 1 + 3, 7 + 1, 2 + 2
        due("the greatest, of the fetch", x.names(0), 9);
        due("of the pick", x.names(1), 2);
        due("none", x.names(2), 1);
        due("none", x.names(3), 1);
        x = new LoopLane();
        x.reckon(1, 0, 1, 0, 4);
        x.lay();
        due("its own of 4 before", x.names(0), 5);
        x = new LoopLane();
        x.fetch(0, 0, 3);
        x.lay();
        due("as x of act 0: 3", x.names(0), 4);
        x = puts(1);
        x.store(0, 0, 0, 0, 2);
        x.works(0, 1, 1, 1);
        due("lay()", x.lay(), 1);
        due("as y of a store: 1 + 2", x.names(0), 4);
    }

    private static void namesRefused() {
        sentence("Promise 28", "MISSING; BEYOND.");
        refused("no laying", Checks::unlaid, y -> y.names(0), MISSING);
        for (int a : NO_ACTS) {
            refused("names(" + a + ")", Checks::lived, y -> y.names(a), BEYOND);
            refused("no laying, names(" + a + ")", Checks::unlaid, y -> y.names(a), MISSING);
        }
        refused("act 16 of 16", Checks::full, y -> y.names(16), BEYOND);
    }

    private static void fewest() {
        sentence("Promise 29", "Places in all: of all ACTS (what = 0), or if all go round by the greatest one's (1).");
        LoopLane x = puts(1);
        x.lay();
        taken("one act", x, y -> y.fewest(0), 1);
        taken("one act", x, y -> y.fewest(1), 1);
        x = after(Checks::full);
        taken("16 acts", x, y -> y.fewest(0), 16);
        taken("16 acts", x, y -> y.fewest(1), 16);
        x = living(5, 4);
        taken("6 and 1", x, y -> y.fewest(0), 7);
        taken("twice 6", x, y -> y.fewest(1), 12);
    }

    private static void fewestRefused() {
        sentence("Promise 29", "MISSING; NO.");
        for (int what : new int[] {LEAST, -1, 2, MOST}) {
            refused("fewest(" + what + ")", Checks::lived, y -> y.fewest(what), NO);
            refused("no laying, fewest(" + what + ")", Checks::unlaid, y -> y.fewest(what), MISSING);
        }
        refused("no laying, fewest(0)", Checks::unlaid, y -> y.fewest(0), MISSING);
        refused("no laying, fewest(1)", Checks::unlaid, y -> y.fewest(1), MISSING);
    }

    private static void forge() {
        sentence("Promise 30", "ACT a is laid at begin t (0 .. 3000) for check() alone: its begin before.");
        LoopLane x = puts(3);
        x.edge(2, 0, 10, 0);
        due("lay()", x.lay(), 3);
        due("act 0 begins at 12", x.tick(0, 2), 12);
        taken("its begin, not its tick", x, y -> y.forge(0, 0), 12);
        taken("as it was forged", x, y -> y.forge(0, 3000), 0);
        taken("as it was forged", x, y -> y.forge(0, 2999), 3000);
        taken("another", x, y -> y.forge(2, 1), 2);
        due("act 1 stays", x.forge(1, 1), 1);
        due("for check() alone, tick(0, 2)", x.tick(0, 2), 12);
        due("for check() alone, laying(2)", x.laying(2), 13);
        due("for check() alone, filled(0, 0)", x.filled(0, 0), 1);
        due("units of acts 1 and 2", x.check(), 2);
        x.forge(2, 2990);
        due("2999 < 2990 + 10", x.check(), 1);
        x.forge(0, 3000);
        due("3000 >= 2990 + 10", x.check(), 0);
    }

    private static void forgeRefused() {
        sentence("Promise 30", "MISSING; BEYOND: ACT; BELOW: t; NO: above 3000.");
        refused("no laying", Checks::unlaid, y -> y.forge(0, 0), MISSING);
        refused("no laying, no such act", Checks::unlaid, y -> y.forge(-1, -1), MISSING);
        for (int a : NO_ACTS) {
            refused("forge(" + a + ", 0)", Checks::lived, y -> y.forge(a, 0), BEYOND);
            refused("forge(" + a + ", -1)", Checks::lived, y -> y.forge(a, -1), BEYOND);
            refused("forge(" + a + ", 3001)", Checks::lived, y -> y.forge(a, 3001), BEYOND);
        }
        for (int t : new int[] {LEAST, -2, -1}) {
            refused("forge(0, " + t + ")", Checks::lived, y -> y.forge(0, t), BELOW);
        }
        for (int t : new int[] {3001, 3002, MOST}) {
            refused("forge(3, " + t + ")", Checks::lived, y -> y.forge(3, t), NO);
        }
        refused("act 16 of 16", Checks::full, y -> y.forge(16, 0), BEYOND);
    }

    private static void forgeEnds() {
        sentence("Promise 30", "(lay() and what takes the LAYING away end that; runs go by the LAYING as it is.)");
        LoopLane x = puts(2);
        x.edge(0, 1, 1, 0);
        x.lay();
        x.forge(1, 0);
        due("forged", x.check(), 1);
        due("lay() ends it", x.lay(), 2);
        due("lay() ends it", x.check(), 0);
        due("its begin is the laying's", x.forge(1, 0), 1);
        x.unit(0, 2);
        x.unit(0, 1);
        x.lay();
        due("unit() and lay() end it", x.check(), 0);
        x.forge(1, 0);
        x.put(1);
        x.undo();
        x.lay();
        due("put(), undo() and lay() end it", x.forge(1, 0), 1);
        due("a run by ticks", x.run(10, true), 10);
        due("goes by the laying", x.told(4), 20);
        due("compare() as well", x.compare(10), 1);
        due("and both leave what was forged", x.check(), 1);
        x.prove(2);
        x.prove(60);
        due("prove() leaves it", x.check(), 1);
        x.first(0, 1);
        x.row(0, 1, true);
        due("first() and row() leave it", x.check(), 1);
    }

    private static void check() {
        sentence("Promise 31", "The LAYING, with what was forged: 0 it is right; 1 an EDGE does not hold; else 2 too many units at a TICK.");
        LoopLane x = puts(2);
        x.edge(0, 1, 1, 0);
        x.lay();
        taken("as it was laid", x, LoopLane::check, 0);
        x.forge(1, 0);
        taken("an edge, and units", x, LoopLane::check, 1);
        x.forge(1, 2);
        taken("units", x, LoopLane::check, 2);
        x.forge(1, 3);
        taken("right", x, LoopLane::check, 0);
        x.forge(0, 3000);
        x.forge(1, 2999);
        taken("an edge alone", x, LoopLane::check, 1);
        x.forge(0, 2998);
        taken("right", x, LoopLane::check, 0);
        x = puts(16);
        x.unit(0, 4);
        x.lay();
        due("lay()", x.laying(0), 4);
        due("4 at each tick", x.check(), 0);
        x.forge(15, 0);
        due("5 at tick 0", x.check(), 2);
        x.forge(15, 3000 - 1);
        due("4 at each tick, 2999 is 3 of 4", x.check(), 0);
        x = apart(6);
        x.unit(1, 4);
        x.edge(0, 2, 30, 0);
        x.edge(2, 0, 30, 1);
        addPuts(x, 3);
        for (int a = 6; a < 9; a++) {
            x.works(a, 1, 1, 1);
        }
        due("lay()", x.lay(), 60);
        due("right at the greatest beat", x.check(), 0);
        x.forge(5, 59);
        due("at its last tick", x.check(), 0);
        x.unit(1, 3);
        x.lay();
        x.forge(8, 0);
        due("not right at the greatest beat", x.check(), 2);
        x = puts(3);
        x.edge(2, 0, 50, 0);
        x.lay();
        x.undo();
        x.lay();
        x.forge(0, 0);
        due("an edge that went with its act", x.check(), 0);
    }

    private static void checkRefused() {
        sentence("Promise 31", "MISSING.");
        refused("a new object", Checks::nothing, LoopLane::check, MISSING);
        refused("the laying was taken away", Checks::unlaid, LoopLane::check, MISSING);
        refused("no laying was found", x -> {
            ringOf61(x);
            x.lay();
        }, LoopLane::check, MISSING);
    }

    private static void wrong(String name, LoopLane x, int... want) {
        for (int what = 0; what < 6; what++) {
            int asked = what;
            taken(name + ", wrong(" + what + ")", x, y -> y.wrong(asked), want[what]);
        }
    }

    /** Of acts 0 .. 3 act a is forged far behind the others, and act b far ahead of them. */
    private static void wrongEdge() {
        sentence("Promise 32", "Of the latest check(): the ACTS a (what = 0), b (1) of the first EDGE that does not hold (by b, then a, then TICKS, then TURNS, the least first), its TICKS (2), TURNS (3);");
        LoopLane x = apart(4);
        int[][] edges = {{3, 2, -5, 0}, {2, 1, 9, 0}, {0, 1, 9, 4}, {0, 1, 9, 3}, {0, 1, -7, 4}, {0, 1, -7, 1},
            {3, 0, -50, 4}};
        for (int[] e : edges) {
            x.edge(e[0], e[1], e[2], e[3]);
        }
        due("lay()", x.lay(), 1);
        wrong("no check() yet", x, NONE, NONE, NONE, NONE, NONE, NONE);
        due("right", x.check(), 0);
        wrong("right", x, NONE, NONE, NONE, NONE, NONE, NONE);
        x.forge(3, 2000);
        x.forge(2, 1900);
        x.forge(1, 0);
        x.forge(0, 1800);
        due("all are broken, (3, 0) by 1800 + 4 < 2000 - 50", x.check(), 1);
        wrong("the least b", x, 3, 0, -50, 4, NONE, NONE);
        x.forge(0, 1950);
        x.check();
        wrong("the least b of the others, the least a, ticks, turns", x, 0, 1, -7, 1, NONE, NONE);
        x.forge(1, 1950 - 8);
        x.forge(2, 1930);
        x.check();
        wrong("(0, 1, -7, 1) just holds, 1942 + 1 >= 1950 - 7; not with 9", x, 0, 1, 9, 3, NONE, NONE);
        x.forge(1, 1956);
        x.check();
        wrong("all of act 1 hold, the last by 1956 + 3 >= 1950 + 9", x, 3, 2, -5, 0, NONE, NONE);
        x.forge(1, 1938);
        x.forge(0, 1930);
        x.forge(3, 1935);
        due("(2, 1)", x.check(), 1);
        wrong("1938 < 1930 + 9", x, 2, 1, 9, 0, NONE, NONE);
        x.forge(1, 1939);
        due("right", x.check(), 0);
        wrong("right again", x, NONE, NONE, NONE, NONE, NONE, NONE);
        x.forge(1, 0);
        wrong("as of the latest check()", x, NONE, NONE, NONE, NONE, NONE, NONE);
        x.check();
        x.unit(0, 2);
        x.check();
        due("a refused check() is none", x.wrong(0), 0);
    }

    private static void wrongUnits() {
        sentence("Promise 32", "of units the first kind (4) and TICK (5); NONE where that is not told.");
        LoopLane x = puts(8);
        for (int a = 0; a < 8; a++) {
            x.works(a, 1, a < 4 ? 5 : 2, 1);
        }
        x.edge(0, 0, 10, 1);
        due("lay()", x.lay(), 10);
        wrong("no check() yet", x, NONE, NONE, NONE, NONE, NONE, NONE);
        x.forge(0, 9);
        x.forge(1, 9);
        due("two at tick 9", x.check(), 2);
        wrong("the last kind, the last tick", x, NONE, NONE, NONE, NONE, 5, 9);
        x.forge(2, 20);
        x.forge(3, 40);
        due("two at tick 0 as well", x.check(), 2);
        wrong("the first tick", x, NONE, NONE, NONE, NONE, 5, 0);
        x.forge(4, 18);
        x.forge(5, 8);
        due("two of kind 2 at tick 8", x.check(), 2);
        wrong("the first kind", x, NONE, NONE, NONE, NONE, 2, 8);
        x.unit(2, 0);
        due("no laying", x.check(), MISSING);
        x.unit(2, 2);
        x.lay();
        x.check();
        wrong("right", x, NONE, NONE, NONE, NONE, NONE, NONE);
        x.works(0, 1, 0, 3);
        x.works(1, 1, 0, 3);
        x.lay();
        x.forge(0, 9);
        x.forge(1, 10);
        due("bit 1 of one, bit 0 of the other", x.check(), 2);
        wrong("the tick at which both are", x, NONE, NONE, NONE, NONE, 0, 0);
    }

    private static void wrongRefused() {
        sentence("Promise 32", "NO.");
        for (int what : new int[] {LEAST, -1, 6, MOST}) {
            refused("wrong(" + what + ")", Checks::lived, y -> y.wrong(what), NO);
            refused("no check(), wrong(" + what + ")", Checks::nothing, y -> y.wrong(what), NO);
        }
    }
}
