import java.util.ArrayList;
import java.util.Arrays;
import java.util.HashMap;
import java.util.List;
import java.util.Map;

/**
 * The document once more, in its slowest form, for LoopLane to be measured by: edges one by one,
 * rings by going round, trials by recursion, laid runs tick by tick with places that go round.
 */
final class NaiveLane {
    static final int NONE = -1, MISSING = -2, BEYOND = -3, BELOW = -4, KIND = -5, COPY = -6,
            NOTHING = -7, ZERO = -8, NO = -9, FULL = -10, SPENT = -11;

    static final class Act {
        int sort, lag = 1, kind = 0, pattern = 1, slot = NONE;
        int[] from = {NONE, NONE, NONE};
        int[] back = {NONE, NONE, NONE};
        long number, first;
    }

    record Edge(int a, int b, int ticks, int turns) {
    }

    static final class Result {
        int refusal = 0, act = NONE, turn = NONE, begun = 0, ticks = 0, laid = 0, whole = 0;
        long[] ends = null;
        List<List<Long>> rows;

        boolean same(Result o) {
            return refusal == o.refusal && act == o.act && turn == o.turn && whole == o.whole
                    && Arrays.equals(ends, o.ends) && rows.equals(o.rows);
        }
    }

    private final List<Act> acts = new ArrayList<>();
    private final List<Edge> told = new ArrayList<>();
    private final int[] units = {1, 1, 1, 1, 1, 1};
    private final long[][] rows = new long[8][];
    private final int[] narrow = new int[8];
    private int[] ticks = null;
    private int[] stages = null;
    private int[] forged = null;
    private int beat = 0;
    private int trials = 0;
    private int[] wrong = {NONE, NONE, NONE, NONE, NONE, NONE};
    private Result latest = new Result();
    private Integer kept = null;
    private final Map<Integer, Integer> refused = new HashMap<>();

    private int refuse(int by) {
        kept = by;
        refused.merge(by, 1, Integer::sum);
        return by;
    }

    private void changed() {
        ticks = null;
        latest = new Result();
    }

    private boolean noAct(int a) {
        return a < 0 || a >= acts.size();
    }

    private static boolean outside(int v, int low, int high) {
        return v < low || v > high;
    }

    private int add(int sort, int slot, boolean slotted, int... operands) {
        for (int i = 0; i < operands.length; i += 2) {
            if (outside(operands[i + 1], 0, 4)) return refuse(NO);
        }
        if (slotted && outside(slot, 0, 7)) return refuse(BEYOND);
        for (int i = 0; i < operands.length; i += 2) {
            if (outside(operands[i], 0, 15)) return refuse(BEYOND);
            if (operands[i + 1] == 0 && operands[i] >= acts.size()) return refuse(BEYOND);
        }
        if (acts.size() == 16) return refuse(FULL);
        Act act = new Act();
        act.sort = sort;
        if (slotted) act.slot = slot;
        for (int i = 0; i < operands.length; i += 2) {
            act.from[i / 2] = operands[i];
            act.back[i / 2] = operands[i + 1];
        }
        acts.add(act);
        changed();
        return acts.size() - 1;
    }

    int put(long v) {
        int a = add(0, 0, false);
        if (a >= 0) acts.get(a).number = v;
        return a;
    }

    int reckon(int sort, int x, int dx, int y, int dy) {
        return outside(sort, 1, 3) ? refuse(NO) : add(sort, 0, false, x, dx, y, dy);
    }

    int fetch(int s, int x, int dx) {
        return add(4, s, true, x, dx);
    }

    int store(int s, int x, int dx, int y, int dy) {
        return add(5, s, true, x, dx, y, dy);
    }

    int pick(int x, int y, int z, int dz) {
        return add(6, 0, false, x, 0, y, 0, z, dz);
    }

    int works(int a, int lag, int unit, int pattern) {
        if (noAct(a) || outside(unit, 0, 5)) return refuse(BEYOND);
        if (outside(lag, 1, 12) || outside(pattern, 1, 255)) return refuse(NO);
        Act act = acts.get(a);
        act.lag = lag;
        act.kind = unit;
        act.pattern = pattern;
        changed();
        return 1;
    }

    int first(int a, long v) {
        if (noAct(a)) return refuse(BEYOND);
        acts.get(a).first = v;
        return 1;
    }

    int unit(int kind, int n) {
        if (outside(kind, 0, 5)) return refuse(BEYOND);
        if (n < 0) return refuse(BELOW);
        if (n > 4) return refuse(NO);
        int was = units[kind];
        units[kind] = n;
        changed();
        return was;
    }

    int edge(int a, int b, int t, int turns) {
        if (noAct(a) || noAct(b)) return refuse(BEYOND);
        if (outside(t, -50, 50) || outside(turns, 0, 4)) return refuse(NO);
        if (told.size() == 40) return refuse(FULL);
        told.add(new Edge(a, b, t, turns));
        changed();
        return told.size();
    }

    int undo() {
        if (acts.isEmpty()) return refuse(MISSING);
        int last = acts.size() - 1;
        for (int b = 0; b < last; b++) {
            for (int f : acts.get(b).from) if (f == last) return refuse(NO);
        }
        acts.remove(last);
        told.removeIf(e -> e.a() == last || e.b() == last);
        changed();
        return last;
    }

    int act(int a, int what) {
        if (noAct(a)) return refuse(BEYOND);
        if (outside(what, 0, 10)) return refuse(NO);
        Act t = acts.get(a);
        int[] parts = {t.sort, t.lag, t.kind, t.pattern, t.slot, t.from[0], t.back[0], t.from[1],
            t.back[1], t.from[2], t.back[2]};
        return parts[what];
    }

    long number(int a) {
        if (noAct(a)) return 0 * refuse(BEYOND);
        if (acts.get(a).sort != 0) return 0 * refuse(KIND);
        return acts.get(a).number;
    }

    private List<Edge> own() {
        List<Edge> list = new ArrayList<>();
        int n = acts.size();
        for (int b = 0; b < n; b++) {
            for (int i = 0; i < 3; i++) {
                int a = acts.get(b).from[i];
                if (!noAct(a)) list.add(new Edge(a, b, acts.get(a).lag, acts.get(b).back[i]));
            }
        }
        for (int a = 0; a < n; a++) {
            for (int b = a + 1; b < n; b++) {
                int s = acts.get(a).sort, t = acts.get(b).sort;
                boolean both = (s == 4 || s == 5) && (t == 4 || t == 5) && (s == 5 || t == 5);
                if (both && acts.get(a).slot == acts.get(b).slot) {
                    list.add(new Edge(a, b, 1, 0));
                    list.add(new Edge(b, a, 1, 1));
                }
            }
        }
        for (int a = 0; a < n; a++) if (acts.get(a).sort == 5) list.add(new Edge(a, a, 1, 1));
        for (int b = 0; b < n; b++) {
            for (int a = 0; a < n; a++) {
                int s = acts.get(a).sort;
                if (acts.get(b).sort != 5 || a == b || s < 3 || s > 5) continue;
                if (a < b) list.add(new Edge(a, b, 1, 0));
                list.add(new Edge(a, b, 1, 1));
            }
        }
        return list;
    }

    private List<Edge> all() {
        List<Edge> list = own();
        list.addAll(told);
        return list;
    }

    int count(int what) {
        switch (what) {
            case 0: return acts.size();
            case 1: return told.size();
            case 2: return own().size();
            case 3: return (int) acts.stream().filter(t -> t.sort == 5).count();
            case 4: return Arrays.stream(units).sum();
            default: return refuse(NO);
        }
    }

    int whole() {
        for (Act t : acts) for (int f : t.from) if (f >= acts.size()) return 0;
        return 1;
    }

    int row(int s, int n, boolean wide) {
        if (outside(s, 0, 7)) return refuse(BEYOND);
        if (n < 0) return refuse(BELOW);
        if (n == 0 || n > 40) return refuse(NO);
        rows[s] = wide ? new long[n] : null;
        narrow[s] = wide ? 0 : n;
        return 1;
    }

    int empty(int s) {
        if (outside(s, 0, 7)) return refuse(BEYOND);
        int had = rows[s] != null || narrow[s] > 0 ? 1 : 0;
        rows[s] = null;
        narrow[s] = 0;
        return had;
    }

    private int place(int s, long i) {
        if (rows[s] == null) return narrow[s] > 0 ? KIND : MISSING;
        return i < 0 || i >= rows[s].length ? BEYOND : 0;
    }

    int set(int s, int i, long v) {
        if (outside(s, 0, 7)) return refuse(BEYOND);
        if (place(s, i) != 0) return refuse(place(s, i));
        rows[s][i] = v;
        return 1;
    }

    long get(int s, int i) {
        if (outside(s, 0, 7)) return 0 * refuse(BEYOND);
        if (place(s, i) != 0) return 0 * refuse(place(s, i));
        return rows[s][i];
    }

    int copy(int s, int i, int t, int j, int n) {
        if (outside(s, 0, 7) || outside(t, 0, 7)) return refuse(BEYOND);
        for (int r : new int[] {s, t}) if (place(r, 0) == MISSING) return refuse(MISSING);
        for (int r : new int[] {s, t}) if (place(r, 0) == KIND) return refuse(KIND);
        if (n < 0) return refuse(BELOW);
        if (i < 0 || j < 0 || (long) i + n > rows[s].length || (long) j + n > rows[t].length) {
            return refuse(COPY);
        }
        long[] part = Arrays.copyOfRange(rows[s], i, i + n);
        for (int k = 0; k < n; k++) rows[t][j + k] = part[k];
        return n;
    }

    /** Longest waits from a start at 0; null if they never come to rest. */
    private static int[] settle(int n, List<int[]> waits) {
        int[] at = new int[n];
        for (int round = 0; round <= n + 1; round++) {
            boolean moved = false;
            for (int[] w : waits) {
                if (at[w[0]] + w[2] > at[w[1]]) {
                    at[w[1]] = at[w[0]] + w[2];
                    moved = true;
                }
            }
            if (!moved) return at;
        }
        return null;
    }

    private List<int[]> waits(int b) {
        List<int[]> list = new ArrayList<>();
        for (Edge e : all()) list.add(new int[] {e.a(), e.b(), e.ticks() - b * e.turns()});
        return list;
    }

    private boolean ring(int b) {
        return settle(acts.size(), waits(b)) == null;
    }

    private boolean unitsSpeakAgainst(int b) {
        for (int k = 0; k < 6; k++) {
            int bits = 0;
            for (Act t : acts) if (t.kind == k) bits += Integer.bitCount(t.pattern);
            if (bits > units[k] * b) return true;
        }
        return false;
    }

    private int low() {
        if (acts.isEmpty() || whole() == 0) return MISSING;
        for (int b = 1; b <= 60; b++) if (!unitsSpeakAgainst(b) && !ring(b)) return b;
        return NO;
    }

    int lowest() {
        int low = low();
        return low < 0 ? refuse(low) : low;
    }

    private boolean crowded(int[] begins, int upTo, int b, int[] where) {
        for (int k = 0; k < 6; k++) {
            for (int r = 0; r < b; r++) {
                int n = 0;
                for (int a = 0; a <= upTo; a++) {
                    if (acts.get(a).kind != k) continue;
                    for (int i = 0; i < 8; i++) {
                        boolean bit = (acts.get(a).pattern & (1 << i)) != 0;
                        if (bit && (begins[a] + i) % b == r) n++;
                    }
                }
                if (n > units[k]) {
                    where[0] = k;
                    where[1] = r;
                    return true;
                }
            }
        }
        return false;
    }

    private int[] stagesFor(int[] r, int upTo, int b) {
        List<int[]> list = new ArrayList<>();
        for (Edge e : all()) {
            if (e.a() > upTo || e.b() > upTo) continue;
            int ask = r[e.a()] + e.ticks() - r[e.b()] - b * e.turns();
            list.add(new int[] {e.a(), e.b(), (int) Math.ceil((double) ask / b)});
        }
        return settle(upTo + 1, list);
    }

    /** 0 found, 3 through, 4 spent. */
    private int seek(int a, int b, int[] r) {
        if (a == acts.size()) return 0;
        for (int t = 0; t < (a == 0 ? 1 : b); t++) {
            if (trials == 3000) return 4;
            trials++;
            r[a] = t;
            if (crowded(r, a, b, new int[2]) || stagesFor(r, a, b) == null) continue;
            int deeper = seek(a + 1, b, r);
            if (deeper != 3) return deeper;
        }
        return 3;
    }

    int lay() {
        trials = 0;
        int low = low();
        if (low < 0) return refuse(low);
        for (int b = low; b <= 60; b++) {
            int[] r = new int[acts.size()];
            int found = seek(0, b, r);
            if (found == 4) return refuse(SPENT);
            if (found == 0) {
                beat = b;
                ticks = r;
                stages = stagesFor(r, r.length - 1, b);
                forged = begins();
                return b;
            }
        }
        return refuse(NO);
    }

    int prove(int b) {
        trials = 0;
        if (acts.isEmpty() || whole() == 0) return refuse(MISSING);
        if (b < 0) return refuse(BELOW);
        if (b == 0 || b > 60) return refuse(NO);
        if (unitsSpeakAgainst(b)) return 1;
        return ring(b) ? 2 : seek(0, b, new int[acts.size()]);
    }

    int trials() {
        return trials;
    }

    private int[] begins() {
        int[] begins = new int[ticks.length];
        for (int a = 0; a < ticks.length; a++) begins[a] = stages[a] * beat + ticks[a];
        return begins;
    }

    private int stageCount() {
        return 1 + Arrays.stream(stages).max().getAsInt();
    }

    int laying(int what) {
        if (ticks == null) return refuse(MISSING);
        if (what == 0) return beat;
        if (what == 1) return stageCount();
        if (what != 2) return refuse(NO);
        int last = 0;
        for (int a = 0; a < ticks.length; a++) last = Math.max(last, begins()[a] + acts.get(a).lag);
        return last;
    }

    int tick(int a, int what) {
        if (ticks == null) return refuse(MISSING);
        if (noAct(a)) return refuse(BEYOND);
        if (what == 0) return ticks[a];
        if (what == 1) return stages[a];
        if (what == 2) return begins()[a];
        if (outside(what, 3, 4)) return refuse(NO);
        int[] early = settle(ticks.length, waits(beat));
        if (what == 3) return early[a];
        int[] late = new int[ticks.length];
        Arrays.fill(late, Arrays.stream(early).max().getAsInt());
        for (int round = 0; round < 40; round++) {
            for (int[] w : waits(beat)) late[w[0]] = Math.min(late[w[0]], late[w[1]] - w[2]);
        }
        return late[a];
    }

    int filled(int kind, int tick) {
        if (ticks == null) return refuse(MISSING);
        if (outside(kind, 0, 5) || outside(tick, 0, beat - 1)) return refuse(BEYOND);
        int n = 0;
        for (int a = 0; a < ticks.length; a++) {
            for (int i = 0; i < 8; i++) {
                boolean bit = acts.get(a).kind == kind && (acts.get(a).pattern >> i) % 2 == 1;
                if (bit && (ticks[a] + i) % beat == tick) n++;
            }
        }
        return n;
    }

    private int placesOf(int a) {
        int life = 0;
        for (int b = 0; b < ticks.length; b++) {
            for (int i = 0; i < 3; i++) {
                if (acts.get(b).from[i] != a) continue;
                life = Math.max(life, begins()[b] + beat * acts.get(b).back[i] - begins()[a]);
            }
        }
        return life / beat + 1;
    }

    int names(int a) {
        if (ticks == null) return refuse(MISSING);
        return noAct(a) ? refuse(BEYOND) : placesOf(a);
    }

    int fewest(int what) {
        if (ticks == null) return refuse(MISSING);
        if (outside(what, 0, 1)) return refuse(NO);
        int sum = 0, most = 0;
        for (int a = 0; a < ticks.length; a++) {
            sum += placesOf(a);
            most = Math.max(most, placesOf(a));
        }
        return what == 0 ? sum : most * ticks.length;
    }

    int forge(int a, int t) {
        if (ticks == null) return refuse(MISSING);
        if (noAct(a)) return refuse(BEYOND);
        if (t < 0) return refuse(BELOW);
        if (t > 3000) return refuse(NO);
        int was = forged[a];
        forged[a] = t;
        return was;
    }

    int check() {
        if (ticks == null) return refuse(MISSING);
        wrong = new int[] {NONE, NONE, NONE, NONE, NONE, NONE};
        List<Edge> broken = new ArrayList<>();
        for (Edge e : all()) {
            if (forged[e.b()] + beat * e.turns() < forged[e.a()] + e.ticks()) broken.add(e);
        }
        broken.sort((e, f) -> {
            int c = Integer.compare(e.b(), f.b());
            if (c == 0) c = Integer.compare(e.a(), f.a());
            if (c == 0) c = Integer.compare(e.ticks(), f.ticks());
            return c != 0 ? c : Integer.compare(e.turns(), f.turns());
        });
        if (!broken.isEmpty()) {
            Edge e = broken.get(0);
            wrong = new int[] {e.a(), e.b(), e.ticks(), e.turns(), NONE, NONE};
            return 1;
        }
        int[] where = new int[2];
        if (!crowded(forged, forged.length - 1, beat, where)) return 0;
        wrong[4] = where[0];
        wrong[5] = where[1];
        return 2;
    }

    int wrong(int what) {
        return outside(what, 0, 5) ? refuse(NO) : wrong[what];
    }

    /** What an act does with its operands read: null and a refusal in told[0], or its end. */
    private Long doAct(Act t, long[] v, int[] refusal) {
        if (t.sort == 3 && v[1] == 0) refusal[0] = ZERO;
        if (t.sort == 4 || t.sort == 5) refusal[0] = place(t.slot, v[0]);
        if (refusal[0] != 0) return null;
        switch (t.sort) {
            case 0: return t.number;
            case 1: return v[0] + v[1];
            case 2: return v[0] * v[1];
            case 3: return v[0] / v[1];
            case 4: return rows[t.slot][(int) v[0]];
            case 5:
                long was = rows[t.slot][(int) v[0]];
                rows[t.slot][(int) v[0]] = v[1];
                return was;
            default: return v[0] != 0 ? v[1] : v[2];
        }
    }

    private Result plain(int n) {
        Result out = new Result();
        long[][] ends = new long[n][acts.size()];
        out.whole = n;
        loop:
        for (int t = 0; t < n; t++) {
            for (int a = 0; a < acts.size(); a++) {
                Act act = acts.get(a);
                long[] v = new long[3];
                for (int i = 0; i < 3; i++) {
                    if (act.from[i] == NONE) continue;
                    int of = t - act.back[i];
                    v[i] = of < 0 ? acts.get(act.from[i]).first : ends[of][act.from[i]];
                }
                int[] refusal = {0};
                Long end = doAct(act, v, refusal);
                out.begun++;
                out.ticks += act.lag;
                if (end == null) {
                    out.refusal = refusal[0];
                    out.act = a;
                    out.turn = t;
                    out.whole = t;
                    break loop;
                }
                ends[t][a] = end;
            }
        }
        if (out.whole > 0) out.ends = ends[out.whole - 1];
        out.rows = rowsNow();
        return out;
    }

    private Result laid(int n) {
        if (n < stageCount()) return plain(n);
        Result out = new Result();
        out.laid = 1;
        int[] begins = begins();
        long[][] places = new long[begins.length][];
        for (int a = 0; a < begins.length; a++) {
            places[a] = new long[placesOf(a)];
            Arrays.fill(places[a], acts.get(a).first);
        }
        long[][] all = new long[n][begins.length];
        int last = Arrays.stream(begins).max().getAsInt() + beat * (n - 1);
        for (int now = 0; now <= last; now++) {
            for (int a = 0; a < begins.length; a++) {
                if (now < begins[a] || (now - begins[a]) % beat != 0) continue;
                int t = (now - begins[a]) / beat;
                if (t >= n) continue;
                boolean behind = t > out.turn || (t == out.turn && a > out.act);
                if (out.refusal != 0 && behind) continue;
                Act act = acts.get(a);
                long[] v = new long[3];
                for (int i = 0; i < 3; i++) {
                    if (act.from[i] == NONE) continue;
                    long[] round = places[act.from[i]];
                    v[i] = round[Math.floorMod(t - act.back[i], round.length)];
                }
                int[] refusal = {0};
                Long end = doAct(act, v, refusal);
                out.begun++;
                out.ticks = now + 1;
                if (end == null) {
                    out.refusal = refusal[0];
                    out.act = a;
                    out.turn = t;
                } else {
                    places[a][t % places[a].length] = end;
                    all[t][a] = end;
                }
            }
        }
        out.whole = out.refusal == 0 ? n : out.turn;
        if (out.whole > 0) out.ends = all[out.whole - 1];
        out.rows = rowsNow();
        return out;
    }

    private List<List<Long>> rowsNow() {
        List<List<Long>> list = new ArrayList<>();
        for (long[] r : rows) {
            List<Long> longs = new ArrayList<>();
            for (int i = 0; r != null && i < r.length; i++) longs.add(r[i]);
            list.add(longs);
        }
        return list;
    }

    private int whyNoRun(int n, boolean laid) {
        if (acts.isEmpty() || whole() == 0 || (laid && ticks == null)) return MISSING;
        return n < 0 ? BELOW : n > 200 ? NO : 0;
    }

    int run(int n, boolean laid) {
        if (whyNoRun(n, laid) != 0) return refuse(whyNoRun(n, laid));
        latest = laid ? laid(n) : plain(n);
        return latest.whole;
    }

    int compare(int n) {
        if (whyNoRun(n, true) != 0) return refuse(whyNoRun(n, true));
        long[][] before = new long[8][];
        for (int s = 0; s < 8; s++) before[s] = rows[s] == null ? null : rows[s].clone();
        Result one = plain(n);
        for (int s = 0; s < 8; s++) rows[s] = before[s] == null ? null : before[s].clone();
        Result other = laid(n);
        for (int s = 0; s < 8; s++) rows[s] = before[s];
        return one.same(other) ? 1 : 0;
    }

    int told(int what) {
        if (outside(what, 0, 5)) return refuse(NO);
        Result o = latest;
        return new int[] {o.refusal, o.act, o.turn, o.begun, o.ticks, o.laid}[what];
    }

    long end(int a) {
        if (noAct(a)) return 0 * refuse(BEYOND);
        return latest.ends == null ? acts.get(a).first : latest.ends[a];
    }

    int again() {
        if (kept == null) return NOTHING;
        int by = kept;
        kept = null;
        return by;
    }

    int status(int by) {
        return outside(by, -11, -2) ? refuse(NO) : refused.getOrDefault(by, 0);
    }
}
