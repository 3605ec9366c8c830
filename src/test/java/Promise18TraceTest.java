public final class Promise18TraceTest {
    public static void main(String[] args) {
        Check check = new Check();
        CordBay bay = new CordBay();
        check.dueTrace(bay);
        bay.block(1);
        check.dueTrace(bay);
        int mix = bay.module(Kinds.MIX, 0);
        int source = Kinds.source(bay, Kinds.INTS, 0, 1);
        int delay = Kinds.behind(bay, mix, Kinds.DELAY);
        bay.cord(source, mix, 0);
        check.dueTrace(bay);
        bay.block(1);
        check.dueTrace(bay, delay + 1, source + 1, mix + 1, -1 - mix, -1 - source, -1 - delay);
        // Cords that change afterwards change the order, not the trace.
        bay.cord(-1, mix, 0);
        check.dueTrace(bay, 3, 2, 1, -1, -2, -3);
        bay.block(1);
        check.dueTrace(bay, 3, 1, 2, -2, -1, -3);
        // The one that fails was opened; those behind it were not.
        bay.table(0, -1);
        bay.module(Kinds.MIX, 0);
        check.due("block(1)", bay.block(1), 2);
        check.dueTrace(bay, 3, 1, 2, -2, -1, -3);
        bay.cord(source, mix, 0);
        check.due("block(1)", bay.block(1), 2);
        check.dueTrace(bay, 3, 2, -2, -3);
        check.due("block(0)", bay.block(0), -1);
        bay.back(1);
        check.dueTrace(bay, 3, 2, -2, -3);
        for (int i : new int[] {-1, 4, 48, Integer.MIN_VALUE, Integer.MAX_VALUE}) {
            check.due("trace(" + i + ")", bay.trace(i), 0);
        }
        longest(check);
        check.end();
    }

    private static void longest(Check check) {
        CordBay bay = new CordBay();
        int[] want = new int[48];
        for (int m = 0; m < 24; m++) {
            bay.module(Kinds.MIX, 0);
            want[m] = m + 1;
            want[47 - m] = -1 - m;
        }
        bay.block(1);
        check.dueTrace(bay, want);
    }
}
