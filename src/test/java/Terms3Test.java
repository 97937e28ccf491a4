/** 'Terms' 3, sentence by sentence: layings, the lowest beat, laying out. */
public final class Terms3Test extends Checks {
    public static void main(String[] args) {
        beatsTicksStages();
        edgesHoldAtEquality();
        asManyUnitsAsThereAre();
        bitsGoRound();
        lowestIsOneAtLeast();
        lowestByUnits();
        noUnitsAtAll();
        lowestByRings();
        ringsOfNoTurns();
        lowestAboveSixty();
        beatsFromTheLowestToSixty();
        ticksFromZero();
        edgesAmongTheActsSoFar();
        backToTheActBefore();
        leastStages();
        threeThousandTrials();
        Due.finish("Terms3Test");
    }

    private static void laid(LoopLane x, int a, int tick, int stage) {
        due("tick(" + a + ", 0)", x.tick(a, 0), tick);
        due("tick(" + a + ", 1)", x.tick(a, 1), stage);
        due("tick(" + a + ", 2)", x.tick(a, 2), stage * x.laying(0) + tick);
    }

    private static void beatsTicksStages() {
        sentence("Terms 3", "A LAYING with a BEAT B (1 .. 60): of each ACT a TICK r, 0 .. B - 1, and a STAGE k, 0 or more: it begins at k * B + r of its TURN, which begins at B times its number.");
        LoopLane x = puts(1);
        due("a beat of 1", x.lay(), 1);
        laid(x, 0, 0, 0);
        x.run(200, true);
        due("turn 199 begins at 199", x.told(4), 200);
        x = apart(4);
        x.edge(2, 3, 30, 0);
        x.edge(3, 2, 30, 1);
        fix(x, 0, 1, -1);
        due("a beat of 60", x.lay(), 60);
        laid(x, 0, 0, 1);
        laid(x, 1, 59, 0);
        laid(x, 2, 0, 0);
        laid(x, 3, 30, 0);
        due("stages", x.laying(1), 2);
        x.run(200, true);
        due("act 0 of turn 199 begins at 60 * 199 + 60", x.told(4), 60 * 200 + 1);
        x = apart(2);
        for (int i = 0; i < 2; i++) {
            x.edge(0, 1, 50, 0);
        }
        due("a beat of 1", x.lay(), 1);
        laid(x, 1, 0, 50);
        due("many stages", x.laying(1), 51);
    }

    private static void edgesHoldAtEquality() {
        sentence("Terms 3", "It is right if all EDGES hold: begin of b + B * TURNS >= begin of a + TICKS;");
        LoopLane x = apart(3);
        x.edge(0, 1, 13, 2);
        x.edge(1, 2, -4, 0);
        x.edge(2, 0, 1, 3);
        x.edge(0, 0, 5, 1);
        due("lay()", x.lay(), 5);
        x.forge(0, 100);
        x.forge(1, 103);
        x.forge(2, 99);
        due("all just hold", x.check(), 0);
        x.forge(1, 102);
        due("102 + 10 < 100 + 13", x.check(), 1);
        x.forge(1, 104);
        due("99 < 104 - 4", x.check(), 1);
        x.forge(2, 114);
        due("100 + 15 >= 114 + 1", x.check(), 0);
        x.forge(2, 115);
        due("100 + 15 < 115 + 1", x.check(), 1);
    }

    private static void asManyUnitsAsThereAre() {
        sentence("Terms 3", "and of no kind more units are filled than there are, at any TICK modulo B");
        for (int kind = 0; kind <= 5; kind++) {
            for (int n = 1; n <= 4; n++) {
                LoopLane x = puts(5);
                for (int a = 0; a < 5; a++) {
                    x.works(a, 1, kind, 1);
                }
                x.unit(kind, n);
                x.edge(0, 0, 9, 1);
                due("lay()", x.lay(), 9);
                for (int a = 0; a < 5; a++) {
                    x.forge(a, a < n ? 5 + 9 * a : 9 * 20 + a);
                }
                due(n + " at tick 5 of " + n, x.check(), 0);
                x.forge(n, 5 + 9 * 300);
                due("one more", x.check(), 2);
                due("its kind", x.wrong(4), kind);
                due("its tick", x.wrong(5), 5);
                x.forge(n, 6 + 9 * 300);
                due("at the tick behind it", x.check(), 0);
            }
        }
    }

    private static void bitsGoRound() {
        sentence("Terms 3", "(an ACT with bit i of its PATTERN at (r + i) modulo B; two of its bits at one such are two units).");
        LoopLane x = puts(2);
        x.works(1, 1, 1, 0b10000001);
        x.edge(0, 0, 8, 1);
        fix(x, 0, 1, 7);
        due("lay()", x.lay(), 8);
        for (int tick = 0; tick < 8; tick++) {
            due("bits 0 and 7 from 7 on, filled(1, " + tick + ")", x.filled(1, tick), tick >= 6 ? 1 : 0);
        }
        x = puts(1);
        x.works(0, 1, 1, 0b10000001);
        x.edge(0, 0, 7, 1);
        due("bits 0 and 7 are one tick of 7", x.prove(7), 3);
        due("so 8", x.lay(), 8);
        x.unit(1, 2);
        due("two units", x.lay(), 7);
        due("filled(1, 0)", x.filled(1, 0), 2);
        x.works(0, 1, 1, 255);
        x.unit(1, 4);
        x.undo();
        x.put(1);
        x.works(0, 1, 1, 255);
        due("8 bits at 2 ticks", x.lay(), 2);
        due("filled(1, 0)", x.filled(1, 0), 4);
        due("filled(1, 1)", x.filled(1, 1), 4);
        x.works(0, 1, 1, 0b01010101);
        due("4 bits at one tick, of one", x.lay(), 1);
        due("filled(1, 0)", x.filled(1, 0), 4);
        x.works(0, 1, 1, 0b01010111);
        due("5 bits at 3 ticks: 0 1 2 1 0", x.lay(), 2);
        due("0 2 4 6", x.filled(1, 0), 4);
        due("1", x.filled(1, 1), 1);
    }

    private static void lowestIsOneAtLeast() {
        sentence("Terms 3", "THE LOWEST beat: the greatest of 1;");
        LoopLane x = puts(1);
        due("one act", x.lowest(), 1);
        x.unit(0, 4);
        due("a bit of 4 units", x.lowest(), 1);
        x.edge(0, 0, 0, 4);
        due("a ring of 0 ticks", x.lowest(), 1);
        x.edge(0, 0, -50, 1);
        due("a ring below 0", x.lowest(), 1);
    }

    /** 16 puts of one kind that fill so many bits in all. */
    private static LoopLane filling(int bits) {
        LoopLane x = puts(16);
        int left = bits;
        for (int a = 0; a < 16; a++) {
            int own = Math.min(8, left - (15 - a));
            x.works(a, 1, 2, (1 << own) - 1);
            left -= own;
        }
        return x;
    }

    private static void lowestByUnits() {
        sentence("Terms 3", "of each kind that is filled: its bits of all ACTS, divided by its UNITS, rounded up");
        for (int n = 1; n <= 4; n++) {
            for (int bits = 16; bits <= 48; bits++) {
                LoopLane x = filling(bits);
                x.unit(2, n);
                due(bits + " bits of " + n, x.lowest(), (bits + n - 1) / n);
            }
        }
        LoopLane x = apart(6);
        x.works(0, 1, 0, 0b111);
        x.works(1, 1, 1, 0b11111);
        x.works(5, 1, 5, 0b1111);
        due("the greatest of 3, 5, 4", x.lowest(), 5);
        x.unit(1, 2);
        due("the greatest of 3, 3, 4", x.lowest(), 4);
        x.works(5, 1, 0, 0b11);
        due("the greatest of 5, 3", x.lowest(), 5);
    }

    private static void noUnitsAtAll() {
        sentence("Terms 3", "(none: there is no LAYING at all);");
        for (int kind = 0; kind <= 5; kind++) {
            LoopLane x = puts(1);
            x.works(0, 1, kind, 1);
            x.unit((kind + 1) % 6, 0);
            due("none of another kind", x.lowest(), 1);
            x.unit(kind, 0);
            due("none of its kind, lowest()", x.lowest(), NO);
            due("none of its kind, lay()", x.lay(), NO);
            due("none of its kind, trials()", x.trials(), 0);
            due("none of its kind, prove(60)", x.prove(60), 1);
            x.unit(kind, 1);
            due("one", x.lowest(), 1);
        }
    }

    private static void lowestByRings() {
        sentence("Terms 3", "the least B for which there is no RING of EDGES with more TICKS in all than B times its TURNS in all");
        for (int turns = 1; turns <= 4; turns++) {
            for (int ticks = 1; ticks <= 50; ticks++) {
                LoopLane x = puts(1);
                x.edge(0, 0, ticks, turns);
                due(ticks + " in " + turns, x.lowest(), (ticks + turns - 1) / turns);
            }
        }
        LoopLane x = apart(4);
        x.edge(0, 1, 20, 0);
        x.edge(1, 2, 20, 4);
        x.edge(2, 3, -7, 0);
        x.edge(3, 0, 20, 4);
        due("53 in 8", x.lowest(), 7);
        x.edge(2, 3, -4, 0);
        due("56 in 8", x.lowest(), 7);
        x.edge(2, 3, -3, 0);
        due("57 in 8", x.lowest(), 8);
        x.edge(1, 0, 0, 2);
        due("20 in 2", x.lowest(), 10);
        x.edge(3, 3, 33, 3);
        due("the greatest of all", x.lowest(), 11);
    }

    private static void ringsOfNoTurns() {
        sentence("Terms 3", "(a RING of no TURNS with TICKS above 0 can't be: there is no LAYING at all).");
        LoopLane x = puts(1);
        x.edge(0, 0, 0, 0);
        due("0 ticks", x.lay(), 1);
        x.edge(0, 0, -1, 0);
        due("-1 ticks", x.lay(), 1);
        x.edge(0, 0, 1, 0);
        due("1 tick, lowest()", x.lowest(), NO);
        due("1 tick, lay()", x.lay(), NO);
        due("1 tick, trials()", x.trials(), 0);
        due("1 tick, prove(60)", x.prove(60), 2);
        x = apart(3);
        x.edge(0, 1, 50, 0);
        x.edge(1, 2, -20, 0);
        x.edge(2, 0, -30, 0);
        due("0 ticks, of three", x.lay(), 1);
        x.edge(2, 0, -29, 0);
        due("1 tick, of three", x.lay(), NO);
        x = puts(16);
        x.unit(0, 4);
        for (int a = 0; a < 16; a++) {
            x.edge(a, (a + 1) % 16, a == 15 ? -15 : 1, 0);
        }
        due("0 ticks, of sixteen", x.lowest(), 4);
        x.edge(15, 0, -14, 0);
        due("1 tick, of sixteen", x.lowest(), NO);
    }

    private static void lowestAboveSixty() {
        sentence("Terms 3", "Above 60: there is none.");
        due("60 bits of 1", filling(60).lowest(), 60);
        refused("61 bits of 1, lowest()", x -> bitsOf(x, 61, 1), LoopLane::lowest, NO);
        refused("61 bits of 1, lay()", x -> bitsOf(x, 61, 1), LoopLane::lay, NO);
        LoopLane x = filling(120);
        x.unit(2, 2);
        due("120 bits of 2", x.lowest(), 60);
        refused("121 bits of 2, lowest()", y -> bitsOf(y, 121, 2), LoopLane::lowest, NO);
        x = filling(128);
        x.unit(2, 3);
        due("128 bits of 3", x.lowest(), 43);
        x = apart(2);
        x.edge(0, 1, 30, 0);
        x.edge(1, 0, 30, 1);
        due("a ring of 60", x.lowest(), 60);
        due("and a laying", x.lay(), 60);
        refused("a ring of 61, lowest()", Terms3Test::ringOf61, LoopLane::lowest, NO);
        refused("a ring of 61, lay()", Terms3Test::ringOf61, LoopLane::lay, NO);
    }

    private static void bitsOf(LoopLane x, int bits, int units) {
        x.unit(2, units);
        int left = bits;
        for (int a = 0; left > 0; a++) {
            int own = Math.min(8, left);
            x.put(a);
            x.works(a, 1, 2, (1 << own) - 1);
            left -= own;
        }
    }

    private static void ringOf61(LoopLane x) {
        addPuts(x, 2);
        x.edge(0, 1, 30, 0);
        x.edge(1, 0, 31, 1);
    }

    /**
     * Acts at 0, 5, 55 .. 59 of one kind: any two that are a beat apart fill one unit, so that beats
     * 50 .. 59 can't be; with one more at 60 nor can 60.
     */
    private static LoopLane crowdedTo(int last) {
        LoopLane x = puts(7 + last - 59);
        x.edge(0, 0, 50, 1);
        fix(x, 0, 1, 5);
        fix(x, 1, 2, 50);
        for (int at = 56; at <= last; at++) {
            fix(x, 2, at - 53, at - 55);
        }
        return x;
    }

    private static void beatsFromTheLowestToSixty() {
        sentence("Terms 3", "LAYING OUT: for B from the LOWEST to 60:");
        LoopLane x = crowdedTo(59);
        due("the lowest", x.lowest(), 50);
        // at each beat act 0 once, and all ticks of each act that is come to
        int through = 0;
        int[] deep = {2, 3, 4, 5, 6, 2, 3, 4, 5, 6};
        for (int b = 50; b <= 59; b++) {
            through += 1 + b * deep[b - 50];
            due("prove(" + b + ")", x.prove(b), 3);
            due("trials at " + b, x.trials(), 1 + b * deep[b - 50]);
        }
        due("60 is the first that goes", x.lay(), 60);
        due("trials", x.trials(), through + 1 + 6 + 56 + 57 + 58 + 59 + 60);
        laid(x, 6, 59, 0);
        x = crowdedTo(60);
        due("the lowest", x.lowest(), 50);
        due("61 is not tried", x.lay(), NO);
        due("trials", x.trials(), through + 1 + 60 * 7);
        due("no laying", x.laying(0), MISSING);
    }

    private static void ticksFromZero() {
        sentence("Terms 3", "ACT by ACT, from 0, TICK by TICK, from 0 (of ACT 0 TICK 0 alone): a TRIAL.");
        LoopLane x = puts(16);
        due("16 of one unit", x.lay(), 16);
        for (int a = 0; a < 16; a++) {
            laid(x, a, a, 0);
        }
        due("1 + 2 + .. 16", x.trials(), 136);
        x = apart(6);
        due("each of its own", x.lay(), 1);
        due("6 trials", x.trials(), 6);
        x = puts(1);
        x.works(0, 1, 0, 0b10001);
        due("act 0 at tick 0 alone", x.prove(4), 3);
        due("1 trial", x.trials(), 1);
        x = apart(2);
        x.edge(0, 0, 10, 1);
        fix(x, 0, 1, -1);
        due("act 0 stays at 0", x.lay(), 10);
        laid(x, 0, 0, 1);
        laid(x, 1, 9, 0);
        due("1 and 10 trials", x.trials(), 11);
    }

    private static void edgesAmongTheActsSoFar() {
        sentence("Terms 3", "It goes on to the next ACT if no kind has too many units filled by the ACTS so far, and EDGES among these can all hold with these TICKS and some STAGES; else the next TICK;");
        LoopLane x = apart(3);
        x.edge(0, 0, 10, 1);
        fix(x, 0, 2, 4);
        fix(x, 1, 2, 2);
        due("lay()", x.lay(), 10);
        laid(x, 1, 2, 0);
        laid(x, 2, 4, 0);
        // act 1 goes on at 0, 1, 2, though by act 2 it must be at 2; act 2 at all ten, twice, then at 4
        due("trials", x.trials(), 1 + (1 + 10) + (1 + 10) + (1 + 5));
        x = apart(3);
        x.edge(0, 0, 10, 1);
        fix(x, 0, 1, 2);
        fix(x, 1, 2, 2);
        due("lay()", x.lay(), 10);
        due("trials, with an edge to an act ahead", x.trials(), 1 + 3 + 5);
        x = apart(3);
        x.works(1, 1, 0, 1);
        x.edge(0, 0, 3, 1);
        due("lay()", x.lay(), 3);
        due("trials: act 1 finds its unit filled at 0", x.trials(), 1 + 2 + 1);
        x = apart(2);
        x.edge(0, 1, 4, 0);
        x.edge(1, 0, 8, 1);
        due("12 in 1", x.lay(), 12);
        laid(x, 1, 4, 0);
        x.edge(1, 0, 9, 2);
        x.edge(0, 1, 8, 0);
        due("16 in 1", x.lay(), 16);
        laid(x, 1, 8, 0);
        due("ticks 0 .. 8", x.trials(), 1 + 9);
        ringsThroughActsSoFar();
    }

    /** At a beat of 5 and ticks of 0 a wait of 7 ticks takes two stages, one of 1 tick takes one. */
    private static void ringsThroughActsSoFar() {
        LoopLane x = apart(3);
        x.edge(0, 0, 5, 1);
        x.edge(0, 1, 7, 0);
        x.edge(1, 2, 1, 0);
        x.edge(2, 0, 1, 3);
        due("lay()", x.lay(), 5);
        due("trials: by act 1 act 2 can't be at 0", x.trials(), 1 + 1 + 2);
        laid(x, 1, 0, 2);
        laid(x, 2, 1, 2);
        x = apart(4);
        x.edge(0, 0, 5, 1);
        x.edge(0, 2, 7, 0);
        x.edge(2, 1, 1, 0);
        x.edge(1, 3, 1, 0);
        x.edge(3, 0, 1, 4);
        due("lay()", x.lay(), 5);
        due("trials: by 0, 2, 1 act 3 can't be at 0", x.trials(), 1 + 1 + 1 + 2);
        laid(x, 1, 0, 3);
        laid(x, 2, 0, 2);
        laid(x, 3, 1, 3);
        x = apart(4);
        x.edge(0, 0, 5, 1);
        x.edge(1, 2, 7, 0);
        x.edge(2, 0, 1, 0);
        x.edge(0, 3, 1, 0);
        x.edge(3, 1, 1, 4);
        due("lay()", x.lay(), 5);
        due("trials: by 1, 2, 0 act 3 can't be at 0", x.trials(), 1 + 1 + 1 + 2);
        laid(x, 0, 0, 3);
        laid(x, 1, 0, 0);
        laid(x, 2, 0, 2);
        laid(x, 3, 1, 3);
    }

    private static void backToTheActBefore() {
        sentence("Terms 3", "if there is none back to the ACT before, its next TICK.");
        LoopLane x = puts(3);
        x.edge(0, 0, 4, 1);
        fix(x, 0, 2, 1);
        due("lay()", x.lay(), 4);
        // act 1 at 0 (filled), at 1 where it is in act 2's way: four ticks; then at 2, and act 2 at 1
        due("trials", x.trials(), 1 + 2 + 4 + 1 + 2);
        laid(x, 1, 2, 0);
        laid(x, 2, 1, 0);
        x = puts(4);
        x.works(0, 1, 1, 1);
        x.edge(0, 0, 3, 1);
        fix(x, 0, 3, 0);
        due("lay()", x.lay(), 3);
        // 1 at 0: 2 at 0 filled, at 1: 3 at 0 .. 2; 2 at 2: 3 at 0 .. 2; 1 at 1: 2 at 0: 3 at 0 .. 2;
        // 2 at 1 filled, at 2: 3 at 0
        due("trials", x.trials(), 1 + 1 + (2 + 3) + (1 + 3) + 1 + (1 + 3) + (2 + 1));
        laid(x, 1, 1, 0);
        laid(x, 2, 2, 0);
        laid(x, 3, 0, 0);
        x = puts(2);
        fix(x, 0, 1, 0);
        due("back to act 0, which has no other tick", x.prove(7), 3);
        due("trials", x.trials(), 1 + 7);
    }

    private static void leastStages() {
        sentence("Terms 3", "If all ACTS have TICKS it is done: these, with the least STAGES that hold (all at once least).");
        LoopLane x = apart(4);
        x.edge(0, 0, 5, 1);
        x.edge(0, 1, 5, 0);
        x.edge(1, 2, 6, 0);
        x.edge(3, 0, -9, 0);
        due("lay()", x.lay(), 5);
        laid(x, 0, 0, 0);
        laid(x, 1, 0, 1);
        laid(x, 2, 0, 3);
        laid(x, 3, 0, 0);
        due("stages", x.laying(1), 4);
        x = apart(3);
        x.edge(0, 0, 5, 1);
        x.edge(2, 0, 11, 0);
        x.edge(2, 1, 6, 1);
        due("lay()", x.lay(), 5);
        laid(x, 0, 0, 3);
        laid(x, 1, 0, 1);
        laid(x, 2, 0, 0);
        x = apart(2);
        x.edge(0, 0, 5, 1);
        x.edge(0, 1, 9, 2);
        due("lay()", x.lay(), 5);
        laid(x, 1, 0, 0);
        x = apart(5);
        x.edge(0, 0, 5, 1);
        x.edge(3, 1, 6, 0);
        x.edge(1, 4, 3, 0);
        x.edge(4, 0, 1, 0);
        x.edge(2, 4, 26, 0);
        due("lay()", x.lay(), 5);
        // by acts that come behind them: 3, 1, 4, 0 are 0, 2, 3, 4; by 2 act 4 is 6, act 0 is 7
        laid(x, 1, 0, 2);
        laid(x, 2, 0, 0);
        laid(x, 3, 0, 0);
        laid(x, 4, 0, 6);
        laid(x, 0, 0, 7);
        x = apart(3);
        x.edge(0, 0, 5, 1);
        x.edge(0, 1, 17, 0);
        x.edge(0, 2, 1, 0);
        x.edge(2, 1, 1, 0);
        due("lay()", x.lay(), 5);
        // by act 2 it would be 2
        laid(x, 1, 0, 4);
        laid(x, 2, 0, 1);
    }

    /**
     * Only one tick of each act goes: act 1 at m, which shows at act 2 alone, act 2 at d, acts 3 and 4
     * at 0 and 30, which make the beat 60.
     */
    private static LoopLane longSearch(int m, int d) {
        LoopLane x = apart(5);
        fix(x, 0, 2, d);
        fix(x, 1, 2, d - m);
        x.edge(3, 4, 30, 0);
        x.edge(4, 3, 30, 1);
        return x;
    }

    private static void threeThousandTrials() {
        sentence("Terms 3", "3000 TRIALS in all B: the 3001st is not made: SPENT.");
        LoopLane x = longSearch(48, 37);
        due("lowest()", x.lowest(), 60);
        due("with the 3000th it is done", x.lay(), 60);
        due("1 + 48 * 61 + 1 + 38 + 1 + 31", x.trials(), 3000);
        laid(x, 1, 48, 0);
        due("prove(60)", x.prove(60), 0);
        due("trials", x.trials(), 3000);
        x = longSearch(48, 38);
        due("the 3001st would do it", x.lay(), SPENT);
        due("it is not made", x.trials(), 3000);
        due("no laying", x.laying(0), MISSING);
        due("prove(60)", x.prove(60), 4);
        due("it is not made", x.trials(), 3000);
        x = allThrough(4, 11, 2, 10, 6, 9, 8, 3);
        due("lowest()", x.lowest(), 53);
        due("with the 3000th all are through", x.lay(), NO);
        due("trials", x.trials(), 3000);
        x = allThrough(7, 11, 5, 2, 9, 3, 6, 10);
        due("with the 3001st all would be through", x.lay(), SPENT);
        due("it is not made", x.trials(), 3000);
    }

    /**
     * Beats 53 .. 60 all fail: at beat b the act at(b), which must begin b ticks behind act 0, fills its
     * unit. Each act has one tick alone, so that there are 1 + b * at(b) trials at b.
     */
    private static LoopLane allThrough(int... at) {
        LoopLane x = puts(12);
        x.works(1, 1, 1, 1);
        fix(x, 0, 1, 30);
        x.edge(1, 0, 23, 1);
        for (int a = 2; a < 12; a++) {
            int begin = 0;
            for (int i = 0; i < at.length; i++) {
                begin = at[i] == a ? 53 + i : begin;
            }
            x.works(a, 1, begin == 0 ? 2 : 0, 1);
            fix(x, 1, a, begin == 0 ? a : begin - 30);
        }
        return x;
    }
}
