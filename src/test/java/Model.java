import java.util.ArrayDeque;
import java.util.ArrayList;
import java.util.Arrays;
import java.util.HashMap;
import java.util.List;
import java.util.Map;

/**
 * The document once more, written apart from CordBay and with the whole Java library: rows are
 * arrays in which NaN is NO NUMBER, a block works on a deep copy, and each block done keeps one.
 */
final class Model {
    private record Line(int kind, double[] x) {
    }

    private static final class Mod {
        int kind;
        int rowKind;
        int[] knob = new int[3];
        int[] in;
    }

    /** What blocks change, by module. */
    private static final class Memory {
        Line gives;
        int place;
        double kept;
        double old;
        boolean up;
        int saturations;
        int was;
        List<Line> fed = new ArrayList<>();

        Memory copy() {
            Memory m = new Memory();
            m.gives = gives;
            m.place = place;
            m.kept = kept;
            m.old = old;
            m.up = up;
            m.saturations = saturations;
            m.was = was;
            m.fed = new ArrayList<>(fed);
            return m;
        }
    }

    private static final class Failure extends RuntimeException {
        private static final long serialVersionUID = 1;
        final int code;
        final int sample;

        Failure(int code, int sample) {
            this.code = code;
            this.sample = sample;
        }
    }

    private final List<Mod> mods = new ArrayList<>();
    private Map<Integer, Memory> memory = new HashMap<>();
    private final ArrayDeque<Map<Integer, Memory>> past = new ArrayDeque<>();
    private final Map<Integer, int[]> tables = new HashMap<>();
    private final Map<Integer, List<int[]>> presets = new HashMap<>();
    private final List<Line> takes = new ArrayList<>();
    private List<Integer> trace = new ArrayList<>();
    private int[] finding;
    private int done;

    private boolean is(int m) {
        return m >= 0 && m < mods.size();
    }

    private Memory mem(int m) {
        return memory.computeIfAbsent(m, k -> new Memory());
    }

    int module(int kind, int rowKind) {
        if (kind < 0 || kind > 10 || rowKind < 0 || rowKind > 4) return -1;
        if (mods.size() == 24) return -2;
        Mod mod = new Mod();
        mod.kind = kind;
        mod.rowKind = rowKind;
        mod.in = kind == 5 ? new int[] {-1, -1, -1} : new int[] {-1, -1};
        mods.add(mod);
        return mods.size() - 1;
    }

    int cord(int o, int m, int in) {
        if (!is(m) || in < 0 || in >= mods.get(m).in.length || (o != -1 && !is(o))) return -1;
        if (o != -1 && mods.get(m).kind != 6) {
            int loop = shortestWay(m, o, new ArrayList<>(List.of(m)));
            if (loop < 100) return -10 - loop;
        }
        mods.get(m).in[in] = o;
        return 1;
    }

    /** Modules on the shortest way by cords from the last of the path to o, all without a DELAY. */
    private int shortestWay(int at, int o, List<Integer> path) {
        Map<Integer, Integer> far = new HashMap<>();
        ArrayDeque<Integer> queue = new ArrayDeque<>(path);
        if (mods.get(o).kind == 6) return 100;
        far.put(at, 1);
        while (!queue.isEmpty()) {
            int m = queue.poll();
            if (m == o) return far.get(m);
            for (int next = 0; next < mods.size(); next++) {
                for (int source : mods.get(next).in) {
                    if (source == m && mods.get(next).kind != 6 && !far.containsKey(next)) {
                        far.put(next, far.get(m) + 1);
                        queue.add(next);
                    }
                }
            }
        }
        return 100;
    }

    int from(int m, int in) {
        return is(m) && in >= 0 && in < mods.get(m).in.length ? mods.get(m).in[in] : -2;
    }

    int knob(int m, int k, int v) {
        if (!is(m) || k < 0 || k > 2 || v < -1000 || v > 1000) return -2000;
        int was = mods.get(m).knob[k];
        mods.get(m).knob[k] = v;
        return was;
    }

    int table(int t, int n) {
        if (t < 0 || t > 7 || n < -1 || n > 16) return -1;
        if (n == -1) tables.remove(t);
        else tables.put(t, new int[n]);
        return 1;
    }

    int write(int t, int i, int v) {
        if (t < 0 || t > 7) return -1;
        if (!tables.containsKey(t)) return -2;
        if (i < 0 || i >= tables.get(t).length) return -3;
        tables.get(t)[i] = v;
        return 1;
    }

    private List<Integer> ordered() {
        List<Integer> acted = new ArrayList<>();
        for (int m = 0; m < mods.size(); m++) {
            if (mods.get(m).kind == 6) acted.add(m);
        }
        boolean more = true;
        while (more) {
            more = false;
            for (int m = 0; m < mods.size() && !more; m++) {
                if (!acted.contains(m) && Arrays.stream(mods.get(m).in).allMatch(o -> o == -1 || acted.contains(o))) {
                    acted.add(m);
                    more = true;
                }
            }
        }
        return acted;
    }

    int block(int n) {
        if (n < 1 || n > 16) return -1;
        Map<Integer, Memory> ahead = new HashMap<>();
        memory.forEach((m, kept) -> ahead.put(m, kept.copy()));
        trace = new ArrayList<>();
        finding = null;
        List<Integer> opened = new ArrayList<>();
        int at = -1;
        try {
            for (int m : ordered()) {
                at = m;
                opened.add(m);
                mem(m).gives = act(mods.get(m), mem(m), n);
            }
        } catch (Failure failure) {
            finding = new int[] {failure.code, at, failure.sample};
            memory = ahead;
        }
        for (int m : opened) trace.add(m + 1);
        for (int i = opened.size() - 1; i >= 0; i--) trace.add(-1 - opened.get(i));
        if (finding != null) return finding[0];
        for (int m = 0; m < mods.size(); m++) {
            Mod mod = mods.get(m);
            mem(m).was = mod.knob[0];
            if (mod.kind == 6) mem(m).fed.add(mod.in[0] == -1 ? null : mem(mod.in[0]).gives);
        }
        past.addLast(ahead);
        if (past.size() > 8) past.removeFirst();
        done++;
        return 0;
    }

    private Line need(Mod mod, int in, int kind) {
        if (mod.in[in] == -1) throw new Failure(1, -1);
        Line line = mem(mod.in[in]).gives;
        if (line == null) throw new Failure(2, -1);
        if (kind != -1 && line.kind != kind) throw new Failure(4, -1);
        return line;
    }

    private static double at(Line line, int k) {
        if (k >= line.x.length) throw new Failure(3, k);
        return line.x[k];
    }

    private static double hold(double x) {
        return Math.max(-1e6, Math.min(1e6, x));
    }

    private static double hold(Memory me, double x, double least, double most) {
        if (x < least || x > most) me.saturations++;
        return Math.max(least, Math.min(most, x));
    }

    private static double hold16(Memory me, double x) {
        return hold(me, x, -32768, 32767);
    }

    private static double hold32(Memory me, double x) {
        return hold(me, x, Integer.MIN_VALUE, Integer.MAX_VALUE);
    }

    private Line act(Mod mod, Memory me, int n) {
        double[] out = new double[n];
        switch (mod.kind) {
            case 0 -> {
                int[] table = tables.get(mod.knob[0]);
                if (table == null) throw new Failure(2, -1);
                for (int k = 0; k < n; k++) {
                    if (table.length == 0) throw new Failure(5, k);
                    if (me.place >= table.length) throw new Failure(3, k);
                    int v = table[me.place];
                    me.place = (((me.place + mod.knob[1]) % table.length) + table.length) % table.length;
                    out[k] = mod.rowKind >= 3 && v == Integer.MIN_VALUE ? Double.NaN : intoKind(me, mod.rowKind, v);
                }
                return new Line(mod.rowKind, out);
            }
            case 1, 2, 3, 4 -> {
                Line in = need(mod, 0, 4);
                for (int k = 0; k < n; k++) {
                    out[k] = shaped(mod, me, at(in, k), k, n);
                }
                return new Line(4, out);
            }
            case 5 -> {
                return mixed(mod, me, n, out);
            }
            case 6 -> {
                int back = me.fed.size() - Math.max(1, Math.min(4, mod.knob[0]));
                return back >= 0 ? me.fed.get(back) : null;
            }
            case 7 -> {
                Line in = need(mod, 0, 4);
                for (int k = 0; k < n; k++) {
                    double x = at(in, k);
                    if (x >= mod.knob[0] / 8.0) me.up = true;
                    else if (x <= mod.knob[1] / 8.0) me.up = false;
                    out[k] = me.up ? 1 : 0;
                }
                return new Line(0, out);
            }
            case 8 -> {
                Line in = need(mod, 0, -1);
                for (int k = 0; k < n; k++) {
                    double x = at(in, k);
                    out[k] = in.kind < 3 ? intoKind(me, mod.rowKind, x) : fromFloating(me, mod.rowKind, x);
                }
                return new Line(mod.rowKind, out);
            }
            case 9 -> {
                Line in = need(mod, 0, -1);
                Line gate = need(mod, 1, 0);
                return at(gate, n - 1) == 1 ? in : null;
            }
            default -> {
                Line in = need(mod, 0, 2);
                long sum = 0;
                for (int k = 0; k < n; k++) {
                    sum += (long) at(in, k);
                    if (k + mod.knob[0] == 0) throw new Failure(5, k);
                    out[k] = hold32(me, sum / (k + mod.knob[0]));
                }
                return new Line(2, out);
            }
        }
    }

    private Line mixed(Mod mod, Memory me, int n, double[] out) {
        List<Line> lines = new ArrayList<>();
        for (int o : mod.in) {
            if (o != -1 && mem(o).gives != null) {
                if (mem(o).gives.kind != 2) throw new Failure(4, -1);
                lines.add(mem(o).gives);
            }
        }
        if (lines.isEmpty()) return null;
        for (int k = 0; k < n; k++) {
            double sum = 0;
            for (Line line : lines) sum += at(line, k);
            out[k] = hold32(me, sum);
        }
        return new Line(2, out);
    }

    private static double shaped(Mod mod, Memory me, double x, int k, int n) {
        if (Double.isNaN(x)) return x;
        double whole = (mod.knob[0] - me.was) * (k + 1);
        double g = (me.was + whole / n) / 8;
        double y = hold(g * x);
        if (mod.kind == 1) return y;
        double z = hold(y + me.kept * (mod.knob[1] / 8.0));
        me.kept = z;
        if (mod.kind != 4) return z;
        double result = hold(z + me.old);
        me.old = hold(z * (mod.knob[2] / 8.0));
        return result;
    }

    private static double intoKind(Memory me, int rowKind, double v) {
        return switch (rowKind) {
            case 0 -> v > 0 ? 1 : 0;
            case 1 -> hold16(me, v);
            case 2 -> v;
            case 3 -> (float) hold(v / 256);
            default -> hold(v / 256);
        };
    }

    private static double fromFloating(Memory me, int rowKind, double x) {
        return switch (rowKind) {
            case 0 -> x > 0 ? 1 : 0;
            case 1 -> hold16(me, (long) (x * 256));
            case 2 -> (long) (x * 256);
            case 3 -> (float) x;
            default -> x;
        };
    }

    int back(int n) {
        if (n < 1 || n > 8 || n > past.size()) return -1;
        for (int i = 0; i < n; i++) memory = past.removeLast();
        done -= n;
        return past.size();
    }

    int keep(int p) {
        if (p < 0 || p > 7) return -1;
        List<int[]> all = new ArrayList<>();
        for (Mod mod : mods) all.add(mod.knob.clone());
        presets.put(p, all);
        return all.size();
    }

    int recall(int p) {
        if (p < 0 || p > 7) return -1;
        if (!presets.containsKey(p)) return -2;
        List<int[]> all = presets.get(p);
        for (int m = 0; m < all.size(); m++) mods.get(m).knob = all.get(m).clone();
        return all.size();
    }

    int take(int m) {
        if (!is(m)) return -1;
        if (mem(m).gives == null) return -2;
        if (takes.size() == 40) return -3;
        takes.add(mem(m).gives);
        return takes.size();
    }

    int equal(int t, int u) {
        if (t < 1 || u < 1 || t > takes.size() || u > takes.size()) return -1;
        Line a = takes.get(t - 1);
        Line b = takes.get(u - 1);
        // Arrays.equals compares doubles by their bits, all NaNs being one.
        return a.kind == b.kind && Arrays.equals(a.x, b.x) ? 1 : 0;
    }

    int row(int m, int what) {
        if (!is(m) || what < 0 || what > 3) return -2;
        Line line = mem(m).gives;
        if (line == null) return -1;
        return switch (what) {
            case 0 -> line.kind;
            case 1 -> line.x.length;
            case 2 -> Arrays.stream(line.x).allMatch(x -> x == 0) ? 1 : 0;
            default -> (int) Arrays.stream(line.x).filter(Double::isNaN).count();
        };
    }

    private double rawSample(int m, int i) {
        Line line = is(m) ? mem(m).gives : null;
        return line == null || i < 0 || i >= line.x.length ? 0 : line.x[i];
    }

    double sample(int m, int i) {
        double x = rawSample(m, i);
        return Double.isNaN(x) ? 0 : x;
    }

    boolean isNone(int m, int i) {
        return Double.isNaN(rawSample(m, i));
    }

    int order(int i) {
        List<Integer> all = ordered();
        return i >= 0 && i < all.size() ? all.get(i) : -1;
    }

    int trace(int i) {
        return i >= 0 && i < trace.size() ? trace.get(i) : 0;
    }

    int finding(int what) {
        return finding == null || what < 0 || what > 2 ? -1 : finding[what];
    }

    int count(int what) {
        if (what == 0) return mods.size();
        if (what == 1) return (int) mods.stream().flatMapToInt(mod -> Arrays.stream(mod.in)).filter(o -> o >= 0).count();
        if (what == 2) return done;
        if (what == 3) return past.size();
        if (what == 4) return takes.size();
        if (what >= 10 && what < 34 && is(what - 10)) return mem(what - 10).saturations;
        if (what >= 40 && is(what - 40)) return mods.get(what - 40).kind;
        return -1;
    }
}
