import java.util.Random;

/** Runs of calls, made by fixed seeds, on LoopLane and NaiveLane: every answer must be the same. */
public final class SideBySideTest {
    private static final int CALLS = 400;

    private final LoopLane lane = new LoopLane();
    private final NaiveLane naive = new NaiveLane();
    private final Random dice;
    private final int seed;
    /** In 1000: how often an argument is drawn from far outside. */
    private final int wild;
    /** Whether act 1 counts the turns, so that refusals come in the midst of a run. */
    private final boolean counts;
    private int laid = 0;
    private int laidRuns = 0;
    private int refusedInLaid = 0;

    private SideBySideTest(int seed, int wild) {
        this.seed = seed;
        this.wild = wild;
        this.dice = new Random(seed);
        this.counts = seed % 3 != 0;
    }

    private int in(int low, int high) {
        if (dice.nextInt(1000) < wild) {
            int[] far = {low - 1, high + 1, -1, -2, 17, Integer.MIN_VALUE, Integer.MAX_VALUE, 3001, 201};
            return far[dice.nextInt(far.length)];
        }
        return low + dice.nextInt(high - low + 1);
    }

    /** An act that stands, mostly. */
    private int some() {
        if (counts && dice.nextInt(3) == 0) {
            return 1;
        }
        return in(0, Math.max(0, lane.count(0) - 1));
    }

    private long value() {
        switch (dice.nextInt(8)) {
            case 0: return dice.nextLong();
            case 1: return Long.MIN_VALUE;
            case 2: return -1L;
            case 3: return 0L;
            default: return dice.nextInt(12);
        }
    }

    private void same(String call, long got, long want) {
        Due.due("seed " + seed + ": " + call, got, want);
    }

    private void addAct() {
        int n = lane.count(0);
        boolean later = dice.nextInt(4) == 0;
        int dx = later ? in(1, 4) : 0;
        int dy = dice.nextInt(3) == 0 ? in(1, 4) : 0;
        int x = later ? in(0, Math.min(15, n + (dice.nextInt(6) == 0 ? 2 : 0))) : some();
        int y = dy > 0 ? in(0, Math.min(15, n)) : some();
        int s = in(0, dice.nextInt(3) == 0 ? 7 : 1);
        switch (dice.nextInt(8)) {
            case 0: case 1: {
                long v = value();
                same("put(" + v + ")", lane.put(v), naive.put(v));
                break;
            }
            case 2: case 3: {
                int sort = dice.nextInt(20) == 0 ? in(0, 7) : in(1, 3);
                same("reckon(" + sort + ", " + x + ", " + dx + ", " + y + ", " + dy + ")",
                        lane.reckon(sort, x, dx, y, dy), naive.reckon(sort, x, dx, y, dy));
                break;
            }
            case 4: case 5:
                same("fetch(" + s + ", " + x + ", " + dx + ")", lane.fetch(s, x, dx), naive.fetch(s, x, dx));
                break;
            case 6:
                same("store(" + s + ", " + x + ", " + dx + ", " + y + ", " + dy + ")",
                        lane.store(s, x, dx, y, dy), naive.store(s, x, dx, y, dy));
                break;
            default: {
                int z = dy > 0 ? y : some();
                int p = some();
                int q = some();
                same("pick(" + p + ", " + q + ", " + z + ", " + dy + ")",
                        lane.pick(p, q, z, dy), naive.pick(p, q, z, dy));
            }
        }
    }

    private void changeBody() {
        int a = some();
        switch (dice.nextInt(7)) {
            case 0: case 1: {
                int lag = in(1, dice.nextInt(3) == 0 ? 12 : 3);
                int kind = in(0, 5);
                int pattern = dice.nextInt(3) == 0 ? in(1, 255) : in(1, 3);
                same("works(" + a + ", " + lag + ", " + kind + ", " + pattern + ")",
                        lane.works(a, lag, kind, pattern), naive.works(a, lag, kind, pattern));
                break;
            }
            case 2: {
                long v = value();
                same("first(" + a + ", " + v + ")", lane.first(a, v), naive.first(a, v));
                break;
            }
            case 3: {
                int kind = in(0, 5);
                int n = dice.nextInt(8) == 0 ? in(0, 4) : in(1, 4);
                same("unit(" + kind + ", " + n + ")", lane.unit(kind, n), naive.unit(kind, n));
                break;
            }
            case 4: case 5: {
                int b = some();
                int turns = in(0, 4);
                int ticks = dice.nextInt(8) == 0 ? in(-50, 50) : in(-6, turns == 0 && b <= a ? 0 : 8);
                same("edge(" + a + ", " + b + ", " + ticks + ", " + turns + ")",
                        lane.edge(a, b, ticks, turns), naive.edge(a, b, ticks, turns));
                break;
            }
            default:
                if (dice.nextInt(2) == 0) {
                    same("undo()", lane.undo(), naive.undo());
                }
        }
    }

    private void changeRows() {
        int s = in(0, dice.nextInt(4) == 0 ? 7 : 1);
        int i = in(0, 9);
        switch (dice.nextInt(8)) {
            case 0: case 1: {
                int n = dice.nextInt(3) == 0 ? in(1, 40) : in(8, 12);
                boolean wide = dice.nextInt(10) != 0;
                same("row(" + s + ", " + n + ", " + wide + ")", lane.row(s, n, wide), naive.row(s, n, wide));
                break;
            }
            case 2:
                if (dice.nextInt(6) == 0) {
                    same("empty(" + s + ")", lane.empty(s), naive.empty(s));
                }
                break;
            case 3: case 4: {
                long v = value();
                same("set(" + s + ", " + i + ", " + v + ")", lane.set(s, i, v), naive.set(s, i, v));
                break;
            }
            case 5:
                same("get(" + s + ", " + i + ")", lane.get(s, i), naive.get(s, i));
                break;
            default: {
                int t = in(0, 1);
                int j = in(0, 9);
                int n = in(0, 8);
                same("copy(" + s + ", " + i + ", " + t + ", " + j + ", " + n + ")",
                        lane.copy(s, i, t, j, n), naive.copy(s, i, t, j, n));
            }
        }
    }

    private void ask() {
        int a = some();
        int what = in(0, 5);
        switch (dice.nextInt(16)) {
            case 0: {
                int part = in(0, 10);
                same("act(" + a + ", " + part + ")", lane.act(a, part), naive.act(a, part));
                break;
            }
            case 1: same("number(" + a + ")", lane.number(a), naive.number(a)); break;
            case 2: same("count(" + what + ")", lane.count(what), naive.count(what)); break;
            case 3: same("whole()", lane.whole(), naive.whole()); break;
            case 4: same("lowest()", lane.lowest(), naive.lowest()); break;
            case 5: {
                int b = in(1, 12);
                same("prove(" + b + ")", lane.prove(b), naive.prove(b));
                break;
            }
            case 6: same("trials()", lane.trials(), naive.trials()); break;
            case 7: same("laying(" + what + ")", lane.laying(what), naive.laying(what)); break;
            case 8: same("tick(" + a + ", " + what + ")", lane.tick(a, what), naive.tick(a, what)); break;
            case 9: {
                int kind = in(0, 5);
                same("filled(" + kind + ", " + what + ")", lane.filled(kind, what), naive.filled(kind, what));
                break;
            }
            case 10: same("names(" + a + ")", lane.names(a), naive.names(a)); break;
            case 11: {
                int which = in(0, 1);
                same("fewest(" + which + ")", lane.fewest(which), naive.fewest(which));
                break;
            }
            case 12: same("told(" + what + ")", lane.told(what), naive.told(what)); break;
            case 13: same("end(" + a + ")", lane.end(a), naive.end(a)); break;
            case 14: same("again()", lane.again(), naive.again()); break;
            default: {
                int by = in(-11, -2);
                same("status(" + by + ")", lane.status(by), naive.status(by));
            }
        }
    }

    private void forgeAndCheck() {
        int a = some();
        int t = dice.nextInt(3) == 0 ? in(0, 3000) : in(0, 40);
        if (dice.nextInt(2) == 0) {
            same("forge(" + a + ", " + t + ")", lane.forge(a, t), naive.forge(a, t));
        }
        same("check()", lane.check(), naive.check());
        for (int what = -1; what <= 6; what++) {
            same("wrong(" + what + ")", lane.wrong(what), naive.wrong(what));
        }
    }

    private void layAndRun() {
        int beat = lane.lay();
        same("lay()", beat, naive.lay());
        same("trials()", lane.trials(), naive.trials());
        int n = dice.nextInt(3) == 0 ? in(0, 200) : in(0, 20);
        int agree = lane.compare(n);
        same("compare(" + n + ")", agree, naive.compare(n));
        if (beat < 0) {
            return;
        }
        laid++;
        if (n >= 0 && n <= 200) {
            same("compare(" + n + ") of a right laying", agree, 1);
        }
        same("check()", lane.check(), naive.check());
        for (int a = 0; a < lane.count(0); a++) {
            for (int what = 0; what < 5; what++) {
                same("tick(" + a + ", " + what + ")", lane.tick(a, what), naive.tick(a, what));
            }
            same("names(" + a + ")", lane.names(a), naive.names(a));
        }
        runAndAsk();
    }

    private void runAndAsk() {
        int n = dice.nextInt(3) == 0 ? in(0, 200) : in(0, 20);
        boolean byTicks = dice.nextInt(3) != 0;
        same("run(" + n + ", " + byTicks + ")", lane.run(n, byTicks), naive.run(n, byTicks));
        for (int what = 0; what < 6; what++) {
            same("told(" + what + ")", lane.told(what), naive.told(what));
        }
        if (lane.told(5) == 1) {
            laidRuns++;
            refusedInLaid += lane.told(0) != 0 ? 1 : 0;
        }
        for (int a = 0; a < 16; a++) {
            same("end(" + a + ")", lane.end(a), naive.end(a));
        }
        for (int s = 0; s < 8; s++) {
            for (int i = 0; i < 12; i++) {
                same("get(" + s + ", " + i + ")", lane.get(s, i), naive.get(s, i));
            }
        }
    }

    private void beginWithCounter() {
        for (int s = 0; s < 8; s++) {
            int n = 1 + dice.nextInt(40);
            same("row(" + s + ", " + n + ", true)", lane.row(s, n, true), naive.row(s, n, true));
        }
        same("put(1)", lane.put(1L), naive.put(1L));
        same("reckon(1, 0, 0, 1, 1)", lane.reckon(1, 0, 0, 1, 1), naive.reckon(1, 0, 0, 1, 1));
        long from = -dice.nextInt(12) * (long) dice.nextInt(2);
        same("first(1, " + from + ")", lane.first(1, from), naive.first(1, from));
    }

    /** With many units beats are short, down to 1, and stages are many. */
    private void beginWithAllUnits() {
        for (int kind = 0; kind < 6; kind++) {
            same("unit(" + kind + ", 4)", lane.unit(kind, 4), naive.unit(kind, 4));
        }
    }

    private void go() {
        int bigger = 4 + dice.nextInt(14);
        if (counts) {
            beginWithCounter();
        }
        if (seed % 4 == 0) {
            beginWithAllUnits();
        }
        for (int call = 0; call < CALLS; call++) {
            int turn = dice.nextInt(100);
            if (turn < 30 && lane.count(0) < bigger) {
                addAct();
            } else if (turn < 42) {
                changeBody();
            } else if (turn < 55) {
                changeRows();
            } else if (turn < 84) {
                ask();
            } else if (turn < 90) {
                forgeAndCheck();
            } else if (turn < 94) {
                layAndRun();
            } else {
                runAndAsk();
            }
        }
        for (int by = -12; by <= 0; by++) {
            same("status(" + by + ")", lane.status(by), naive.status(by));
        }
    }

    public static void main(String[] args) {
        int seeds = args.length > 1 ? Integer.parseInt(args[1]) : 150;
        int layings = 0;
        int runs = 0;
        int refusals = 0;
        for (int seed = 1; seed <= seeds; seed++) {
            SideBySideTest test = new SideBySideTest(seed, seed % 5 == 0 ? 150 : seed % 2 == 0 ? 0 : 10);
            test.go();
            layings += test.laid;
            runs += test.laidRuns;
            refusals += test.refusedInLaid;
        }
        System.out.println(layings + " layings, " + runs + " laid runs, " + refusals + " of them refused");
        Due.holds("enough was laid, run and refused", layings > seeds && runs > seeds && refusals > seeds);
        Due.finish("SideBySideTest");
    }
}
