/** SHAPE, FILTER, SLOW and LATE. */
public final class Promise08ShapeTest {
    private static final int[] FOUR = {Kinds.SHAPE, Kinds.FILTER, Kinds.SLOW, Kinds.LATE};

    public static void main(String[] args) {
        Check check = new Check();
        gainComes(check);
        gainRounds(check);
        kept(check);
        holding(check);
        noNumber(check);
        findings(check);
        check.end();
    }

    private static void gainComes(Check check) {
        CordBay bay = new CordBay();
        int source = Kinds.source(bay, Kinds.DOUBLES, 0, 256);
        int shape = Kinds.behind(bay, source, Kinds.SHAPE, 8);
        bay.block(4);
        check.dueRow(bay, shape, Kinds.DOUBLES, 0.25, 0.5, 0.75, 1);
        bay.block(2);
        check.dueRow(bay, shape, Kinds.DOUBLES, 1, 1);
        bay.knob(shape, 0, 999);
        bay.knob(shape, 0, -8);
        bay.block(4);
        check.dueRow(bay, shape, Kinds.DOUBLES, 0.5, 0, -0.5, -1);
        bay.back(1);
        bay.knob(shape, 0, 0);
        bay.block(2);
        check.dueRow(bay, shape, Kinds.DOUBLES, 0.5, 0);
        // A block that is not done does not count as the latest one.
        bay.knob(shape, 0, 16);
        int lone = bay.module(Kinds.SHAPE, 0);
        check.dueFinding(bay, 2, 1, lone, -1);
        bay.cord(source, lone, 0);
        bay.knob(lone, 0, 8);
        bay.block(2);
        check.dueRow(bay, shape, Kinds.DOUBLES, 1, 2);
        check.dueRow(bay, lone, Kinds.DOUBLES, 0.5, 1);
    }

    private static void gainRounds(Check check) {
        CordBay bay = new CordBay();
        int source = Kinds.source(bay, Kinds.DOUBLES, 0, 257, 12345, -77);
        int shape = Kinds.behind(bay, source, Kinds.SHAPE, 7);
        bay.block(1);
        bay.knob(shape, 0, 111);
        bay.block(3);
        double[] want = new double[3];
        double[] x = {12345 / 256.0, -77 / 256.0, 257 / 256.0};
        for (int k = 0; k < 3; k++) {
            double g = (7.0 + (double) (104 * (k + 1)) / 3.0) / 8.0;
            want[k] = g * x[k];
        }
        check.dueRow(bay, shape, Kinds.DOUBLES, want);
    }

    private static void kept(Check check) {
        CordBay bay = new CordBay();
        int source = Kinds.source(bay, Kinds.DOUBLES, 0, 256, 512, 768, 1024);
        int filter = Kinds.behind(bay, source, Kinds.FILTER, 8, 4, 999);
        int slow = Kinds.behind(bay, source, Kinds.SLOW, 8, 4, 999);
        int late = Kinds.behind(bay, source, Kinds.LATE, 8, 4, -2);
        bay.block(2);
        // y is 0.5, 2; z is 0.5, 2.25; OLD is -0.125, -0.5625.
        check.dueRow(bay, filter, Kinds.DOUBLES, 0.5, 2.25);
        check.dueRow(bay, slow, Kinds.DOUBLES, 0.5, 2.25);
        check.dueRow(bay, late, Kinds.DOUBLES, 0.5, 2.125);
        bay.block(2);
        // y is 3, 4; z is 4.125, 6.0625; OLD is -1.03125 behind the first.
        check.dueRow(bay, filter, Kinds.DOUBLES, 4.125, 6.0625);
        check.dueRow(bay, slow, Kinds.DOUBLES, 4.125, 6.0625);
        check.dueRow(bay, late, Kinds.DOUBLES, 3.5625, 5.03125);
    }

    private static void holding(Check check) {
        CordBay bay = new CordBay();
        int source = Kinds.source(bay, Kinds.DOUBLES, 0, 256000000, -256000000, 0);
        int shape = Kinds.behind(bay, source, Kinds.SHAPE, 1000);
        int filter = Kinds.behind(bay, source, Kinds.FILTER, 1000, 1000);
        int late = Kinds.behind(bay, source, Kinds.LATE, 8, 0, -1000);
        bay.block(1);
        check.dueRow(bay, shape, Kinds.DOUBLES, 1000000);
        check.dueRow(bay, filter, Kinds.DOUBLES, 1000000);
        check.dueRow(bay, late, Kinds.DOUBLES, 1000000);
        bay.block(1);
        check.dueRow(bay, shape, Kinds.DOUBLES, -1000000);
        // -1000000 + 1000000 * 125, held; and -1000000 + OLD, which was held to -1000000.
        check.dueRow(bay, filter, Kinds.DOUBLES, 1000000);
        check.dueRow(bay, late, Kinds.DOUBLES, -1000000);
        bay.block(1);
        check.dueRow(bay, shape, Kinds.DOUBLES, 0);
        check.dueRow(bay, filter, Kinds.DOUBLES, 1000000);
        check.dueRow(bay, late, Kinds.DOUBLES, 1000000);
        for (int m : new int[] {shape, filter, late}) {
            check.due("count(10 + m), floating ones don't count", bay.count(10 + m), 0);
        }
    }

    private static void noNumber(Check check) {
        CordBay bay = new CordBay();
        int source = Kinds.source(bay, Kinds.DOUBLES, 0, 256, Kinds.LEAST, 512, Kinds.LEAST);
        int shape = Kinds.behind(bay, source, Kinds.SHAPE, 8);
        int filter = Kinds.behind(bay, source, Kinds.FILTER, 8, 8);
        int late = Kinds.behind(bay, source, Kinds.LATE, 8, 8, 8);
        bay.block(4);
        check.dueRow(bay, shape, Kinds.DOUBLES, 0.25, Kinds.NONE, 1.5, Kinds.NONE);
        check.dueRow(bay, filter, Kinds.DOUBLES, 0.25, Kinds.NONE, 1.75, Kinds.NONE);
        check.dueRow(bay, late, Kinds.DOUBLES, 0.25, Kinds.NONE, 2, Kinds.NONE);
        bay.block(1);
        check.dueRow(bay, filter, Kinds.DOUBLES, 2.75);
        check.dueRow(bay, late, Kinds.DOUBLES, 4.5);
    }

    private static void findings(Check check) {
        for (int kind : FOUR) {
            CordBay bay = new CordBay();
            int m = bay.module(kind, Kinds.DOUBLES);
            check.dueFinding(bay, 1, 1, m, -1);
            int mix = bay.module(Kinds.MIX, 0);
            bay.cord(mix, m, 0);
            check.dueFinding(bay, 1, 2, m, -1);
            for (int rowKind = 0; rowKind < 4; rowKind++) {
                bay.cord(Kinds.source(bay, rowKind, 0, 1), m, 0);
                check.dueFinding(bay, 1, 4, m, -1);
            }
            int delay = Kinds.behind(bay, Kinds.source(bay, Kinds.DOUBLES, 0, 1), Kinds.DELAY, 1);
            bay.cord(delay, m, 0);
            check.dueFinding(bay, 2, 2, m, -1);
            bay.cord(bay.from(delay, 0), m, 0);
            check.due("block(2)", bay.block(2), 0);
            bay.cord(delay, m, 0);
            check.dueFinding(bay, 3, 3, m, 2);
            check.due("block(1), of a longer row", bay.block(1), 0);
            check.due("row(m, 1)", bay.row(m, 1), 1);
        }
    }
}
