/** What a block is as a whole: its length, its order, its failing, and how DELAYS close loops. */
public final class Promise08BlockTest {
    public static void main(String[] args) {
        Check check = new Check();
        lengths(check);
        wrongLengthDoesNothing(check);
        failureLeavesNothing(check);
        firstFailureCounts(check);
        insThatDoNotCount(check);
        check.end();
    }

    private static void lengths(Check check) {
        CordBay bay = new CordBay();
        check.due("block(1) of an empty bay", bay.block(1), 0);
        check.due("count(2)", bay.count(2), 1);
        int m = Kinds.source(bay, Kinds.INTS, 0, 7);
        for (int n = 1; n <= 16; n++) {
            check.due("block(" + n + ")", bay.block(n), 0);
            check.due("row(m, 1)", bay.row(m, 1), n);
            check.due("sample(m, n - 1)", bay.sample(m, n - 1), 7);
        }
        check.due("count(2)", bay.count(2), 17);
    }

    private static void wrongLengthDoesNothing(Check check) {
        CordBay bay = new CordBay();
        Kinds.source(bay, Kinds.INTS, 0, 7);
        bay.module(Kinds.SHAPE, 0);
        bay.block(2);
        for (int n : new int[] {0, -1, 17, Integer.MIN_VALUE, Integer.MAX_VALUE}) {
            check.due("block(" + n + ")", bay.block(n), -1);
            check.due("finding(0)", bay.finding(0), 1);
            check.due("finding(1)", bay.finding(1), 1);
            check.dueTrace(bay, 1, 2, -2, -1);
            check.due("count(2)", bay.count(2), 0);
        }
    }

    /** A SOURCE, what keeps something, a DELAY, and a MEAN that fails at its sample 2. */
    private static void failureLeavesNothing(Check check) {
        CordBay bay = new CordBay();
        int ints = Kinds.source(bay, Kinds.INTS, 0, 100000, 200000, 300000);
        int shorts = Kinds.turn(bay, ints, Kinds.SHORTS);
        int doubles = Kinds.turn(bay, ints, Kinds.DOUBLES);
        int late = Kinds.behind(bay, doubles, Kinds.LATE, 8, 4, 4);
        int gate = Kinds.behind(bay, late, Kinds.GATE, 800, 0);
        int delay = Kinds.behind(bay, ints, Kinds.DELAY, 1);
        int mean = Kinds.behind(bay, ints, Kinds.MEAN, 1);
        check.due("block(2)", bay.block(2), 0);
        double[] ahead = state(bay, ints, shorts, doubles, late, gate, delay, mean);
        bay.knob(mean, 0, -2);
        bay.knob(late, 0, 16);
        check.dueFinding(bay, 3, 5, mean, 2);
        double[] after = state(bay, ints, shorts, doubles, late, gate, delay, mean);
        for (int i = 0; i < ahead.length; i++) {
            check.due("answer " + i + " after a failure", after[i], ahead[i]);
        }
        check.due("count(2)", bay.count(2), 1);
        check.due("count(3)", bay.count(3), 1);
        bay.knob(mean, 0, 1);
        bay.knob(late, 0, 8);
        bay.block(1);
        check.dueRow(bay, ints, Kinds.INTS, 300000);
        check.dueRow(bay, delay, Kinds.INTS, 100000, 200000);
        check.due("count(10 + shorts)", bay.count(10 + shorts), 3);
        // Without a failure: z of sample 1 is 8 / 8 * 781.25 + z0 / 2, z0 being 390.625 / 2.
        double z0 = 390.625 * 0.5;
        double z1 = 781.25 + z0 * 0.5;
        double z2 = 1171.875 + z1 * 0.5;
        check.dueRow(bay, late, Kinds.DOUBLES, z2 + z1 * 0.5);
    }

    private static double[] state(CordBay bay, int... modules) {
        double[] all = new double[modules.length * 22];
        int at = 0;
        for (int m : modules) {
            for (int i = 0; i < 17; i++) {
                all[at++] = bay.sample(m, i);
            }
            for (int what = 0; what < 4; what++) {
                all[at++] = bay.row(m, what);
            }
            all[at++] = bay.count(10 + m);
        }
        return all;
    }

    private static void firstFailureCounts(Check check) {
        CordBay bay = new CordBay();
        bay.module(Kinds.SHAPE, 0);
        bay.module(Kinds.SHAPE, 0);
        check.dueFinding(bay, 1, 1, 0, -1);
        // Now module 0 acts behind module 1, which is then the first to fail.
        bay.cord(1, 0, 0);
        check.dueFinding(bay, 1, 1, 1, -1);
        check.dueTrace(bay, 2, -2);
    }

    /** Ins that a kind does not name hold a module up, but nothing is wanted of them. */
    private static void insThatDoNotCount(Check check) {
        CordBay bay = new CordBay();
        int source = Kinds.source(bay, Kinds.DOUBLES, 0, 256);
        int shape = Kinds.behind(bay, source, Kinds.SHAPE, 8);
        int silent = bay.module(Kinds.MIX, 0);
        bay.cord(silent, shape, 1);
        bay.cord(silent, source, 0);
        int delay = bay.module(Kinds.DELAY, 0);
        bay.cord(source, delay, 1);
        check.due("block(1)", bay.block(1), 0);
        check.dueRow(bay, shape, Kinds.DOUBLES, 1);
        check.dueTrace(bay, 4, 3, 1, 2, -2, -1, -3, -4);
        bay.block(1);
        check.due("row(delay, 0), in 1 does not feed", bay.row(delay, 0), -1);
    }
}
