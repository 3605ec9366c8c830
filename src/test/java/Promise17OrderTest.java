public final class Promise17OrderTest {
    public static void main(String[] args) {
        Check check = new Check();
        CordBay bay = new CordBay();
        check.dueOrder(bay);
        bay.module(Kinds.MIX, 0);
        bay.module(Kinds.SOURCE, 2);
        bay.module(Kinds.DELAY, 0);
        bay.module(Kinds.SHAPE, 0);
        bay.module(Kinds.DELAY, 0);
        check.dueOrder(bay, 2, 4, 0, 1, 3);
        check.due("cord(3, 0, 2)", bay.cord(3, 0, 2), 1);
        check.dueOrder(bay, 2, 4, 1, 3, 0);
        bay.cord(0, 1, 1);
        check.dueOrder(bay, 2, 4, 3, 0, 1);
        check.due("cord(1, 3, 0), refused", bay.cord(1, 3, 0), -13);
        check.dueOrder(bay, 2, 4, 3, 0, 1);
        // Cords to DELAYS hold nothing up, nor do cords from them.
        bay.cord(1, 2, 0);
        bay.cord(4, 2, 1);
        bay.cord(2, 3, 0);
        check.dueOrder(bay, 2, 4, 3, 0, 1);
        bay.cord(-1, 0, 2);
        check.dueOrder(bay, 2, 4, 0, 1, 3);
        for (int i : new int[] {-1, 5, 24, Integer.MIN_VALUE, Integer.MAX_VALUE}) {
            check.due("order(" + i + ")", bay.order(i), -1);
        }
        backwards(check);
        check.end();
    }

    /** Each module hangs on the next one, so the greatest number comes first. */
    private static void backwards(Check check) {
        CordBay bay = new CordBay();
        int[] want = new int[24];
        for (int m = 0; m < 24; m++) {
            bay.module(Kinds.SWITCH, 0);
            want[m] = 23 - m;
        }
        for (int m = 0; m < 23; m++) {
            check.due("cord", bay.cord(m + 1, m, m % 2), 1);
        }
        check.dueOrder(bay, want);
    }
}
