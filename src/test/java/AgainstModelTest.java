import java.util.Random;

/** Runs of calls by fixed seeds: CordBay must answer each as Model does, and never throw. */
public final class AgainstModelTest {
    private static final int RUNS = 1600;
    private static final int CALLS = 512;

    private final Random random;
    private final CordBay bay = new CordBay();
    private final Model model = new Model();
    private final int run;
    private final StringBuilder log = new StringBuilder();
    private final int[] rowKinds = new int[24];
    private boolean wild;
    private boolean asking;
    private static int doneBlocks;
    private static int failedBlocks;
    private static final int[] findings = new int[6];

    private AgainstModelTest(int run) {
        this.run = run;
        random = new Random(run);
    }

    public static void main(String[] args) {
        for (int run = 0; run < RUNS; run++) {
            new AgainstModelTest(run).play();
        }
        System.out.println("  " + RUNS + " runs, " + doneBlocks + " blocks done, " + failedBlocks + " with a finding");
        for (int code = 1; code <= 5; code++) {
            if (findings[code] < 100) {
                System.out.println("  too few of FINDING " + code + ": " + findings[code]);
                System.exit(1);
            }
        }
        if (doneBlocks < 10000) {
            System.out.println("  too few blocks were done");
            System.exit(1);
        }
    }

    private void play() {
        int style = run % 4;
        int modules = style == 3 ? 24 : 2 + random.nextInt(10);
        for (int call = 0; call < CALLS; call++) {
            wild = random.nextInt(25) == 0;
            if (style != 2 && call < 8) {
                fillTable(call);
            } else if (style != 2 && call < 8 + modules) {
                addWired();
            } else {
                anyCall();
            }
            if (call % 7 == 0) {
                askAll();
            }
        }
    }

    private int odd() {
        int[] odd = {-1, -2, 0, 1, 8, 16, 17, 24, 25, 40, 64, 1001, -1001, Integer.MIN_VALUE, Integer.MAX_VALUE};
        return odd[random.nextInt(odd.length)];
    }

    private int pick(int bound) {
        return wild ? odd() : random.nextInt(bound);
    }

    private int someModule() {
        return pick(Math.max(1, model.count(0)));
    }

    private int value() {
        switch (random.nextInt(8)) {
            case 0: return Integer.MIN_VALUE;
            case 1: return Integer.MAX_VALUE - random.nextInt(3);
            case 2: return 0;
            case 3: return random.nextInt();
            case 4: return (random.nextBoolean() ? 1 : -1) * (32760 + random.nextInt(16));
            default: return random.nextInt(4001) - 2000;
        }
    }

    private int knobValue() {
        if (wild) return odd();
        switch (random.nextInt(4)) {
            case 0: return random.nextInt(2001) - 1000;
            case 1: return random.nextInt(8);
            default: return random.nextInt(33) - 16;
        }
    }

    private void due(String call, double got, double want) {
        if (!asking) {
            log.append(call).append('\n');
        }
        if (Double.doubleToLongBits(got) != Double.doubleToLongBits(want)) {
            System.out.println(log);
            System.out.println("  run " + run + ": " + call + " answered " + got + ", the model says " + want);
            System.exit(1);
        }
    }

    private void fillTable(int t) {
        int n = random.nextInt(12) == 0 ? 0 : 1 + random.nextInt(16);
        due("table(" + t + ", " + n + ")", bay.table(t, n), model.table(t, n));
        for (int i = 0; i < n; i++) {
            writeOne(t, i, value());
        }
    }

    private void writeOne(int t, int i, int v) {
        due("write(" + t + ", " + i + ", " + v + ")", bay.write(t, i, v), model.write(t, i, v));
    }

    private void moduleOne(int kind, int rowKind) {
        int[] outOf = {rowKind, 4, 4, 4, 4, 2, rowKind, 0, rowKind, rowKind, 2};
        int m = model.module(kind, rowKind);
        due("module(" + kind + ", " + rowKind + ")", bay.module(kind, rowKind), m);
        if (m >= 0) {
            rowKinds[m] = outOf[kind];
        }
    }

    private void knobOne(int m, int k, int v) {
        due("knob(" + m + ", " + k + ", " + v + ")", bay.knob(m, k, v), model.knob(m, k, v));
    }

    private void cordOne(int o, int m, int in) {
        due("cord(" + o + ", " + m + ", " + in + ")", bay.cord(o, m, in), model.cord(o, m, in));
    }

    /** A module whose ins mostly get the kind of row that they want. */
    private void addWired() {
        int kind = random.nextInt(3) == 0 ? 0 : random.nextInt(11);
        int rowKind = random.nextInt(5);
        int m = model.count(0);
        moduleOne(kind, rowKind);
        knobOne(m, 0, kind == 0 ? random.nextInt(8) : kind == 6 || kind == 10 ? 1 + random.nextInt(4) : knobValue());
        knobOne(m, 1, knobValue());
        knobOne(m, 2, knobValue());
        if (kind != 0) wire(m);
    }

    private void wire(int m) {
        int kind = model.count(40 + m);
        int wanted = kind <= 4 || kind == 7 ? 4 : kind == 5 || kind == 10 ? 2 : -1;
        for (int in = 0; in < (kind == 5 ? 3 : kind == 9 ? 2 : 1); in++) {
            cordOne(giving(kind == 9 && in == 1 ? 0 : wanted), m, in);
        }
    }

    private int giving(int rowKind) {
        int best = -1;
        for (int o = 0; o < model.count(0); o++) {
            boolean fits = rowKind == -1 || rowKinds[o] == rowKind;
            if (fits && (best == -1 || random.nextInt(2) == 0)) {
                best = o;
            }
        }
        return best;
    }

    private void anyCall() {
        switch (random.nextInt(20)) {
            case 0: {
                int kind = pick(11);
                int rowKind = random.nextInt(5);
                if (random.nextInt(6) == 0) moduleOne(kind, rowKind);
                break;
            }
            case 1: case 2:
                cordOne(random.nextInt(6) == 0 ? -1 : someModule(), someModule(), random.nextInt(3));
                break;
            case 3: case 4:
                knobOne(someModule(), pick(3), knobValue());
                break;
            case 5: {
                int t = pick(8);
                int n = random.nextInt(8) == 0 ? odd() : random.nextInt(17);
                if (random.nextInt(3) == 0) due("table(" + t + ", " + n + ")", bay.table(t, n), model.table(t, n));
                break;
            }
            case 6:
                writeOne(pick(8), pick(16), value());
                break;
            case 7: case 8: {
                int n = 1 + pick(8);
                if (random.nextInt(3) == 0) due("back(" + n + ")", bay.back(n), model.back(n));
                break;
            }
            case 9: {
                int p = pick(8);
                due("keep(" + p + ")", bay.keep(p), model.keep(p));
                break;
            }
            case 10: {
                int p = pick(8);
                due("recall(" + p + ")", bay.recall(p), model.recall(p));
                break;
            }
            case 11: {
                int m = someModule();
                due("take(" + m + ")", bay.take(m), model.take(m));
                break;
            }
            default:
                blockOne();
        }
    }

    private void blockOne() {
        int n = random.nextInt(3) == 0 ? pick(18) : 4;
        int want = model.block(n);
        due("block(" + n + ")", bay.block(n), want);
        if (want == 0) doneBlocks++;
        if (want > 0) {
            failedBlocks++;
            findings[want]++;
            if (random.nextInt(8) != 0) mend();
        }
    }

    /** Turns a failing module's cords or knobs, so that runs do not stay with one failure. */
    private void mend() {
        int m = model.finding(1);
        int code = model.finding(0);
        if (model.count(40 + m) == 0) {
            fillTable(random.nextInt(8));
            knobOne(m, 0, random.nextInt(8));
        } else if (code == 5) {
            knobOne(m, 0, 1);
        } else {
            wire(m);
        }
    }

    private void askAll() {
        asking = true;
        for (int what = -1; what < 66; what++) {
            due("count(" + what + ")", bay.count(what), model.count(what));
        }
        for (int i = -1; i < 50; i++) {
            due("trace(" + i + ")", bay.trace(i), model.trace(i));
        }
        for (int i = -1; i < 25; i++) {
            due("order(" + i + ")", bay.order(i), model.order(i));
        }
        for (int what = -1; what < 4; what++) {
            due("finding(" + what + ")", bay.finding(what), model.finding(what));
        }
        for (int m = -1; m <= model.count(0); m++) {
            for (int what = -1; what < 5; what++) {
                due("row(" + m + ", " + what + ")", bay.row(m, what), model.row(m, what));
                due("from(" + m + ", " + what + ")", bay.from(m, what), model.from(m, what));
            }
            for (int i = -1; i < 17; i++) {
                due("sample(" + m + ", " + i + ")", bay.sample(m, i), model.sample(m, i));
                due("isNone(" + m + ", " + i + ")", bay.isNone(m, i) ? 1 : 0, model.isNone(m, i) ? 1 : 0);
            }
        }
        for (int i = 0; i < 10; i++) {
            int t = pick(42);
            int u = pick(42);
            due("equal(" + t + ", " + u + ")", bay.equal(t, u), model.equal(t, u));
        }
        asking = false;
    }
}
