public final class Promise11RecallTest {
    public static void main(String[] args) {
        Check check = new Check();
        wrongInputs(check);
        knobs(check);
        shapes(check);
        check.end();
    }

    private static void wrongInputs(Check check) {
        CordBay bay = new CordBay();
        for (int p : new int[] {-1, 8, Integer.MIN_VALUE, Integer.MAX_VALUE}) {
            check.due("recall(" + p + ")", bay.recall(p), -1);
        }
        check.due("recall(0)", bay.recall(0), -2);
        bay.keep(1);
        check.due("recall(0), another was kept", bay.recall(0), -2);
        check.due("recall(1), of no modules", bay.recall(1), 0);
    }

    private static void knobs(Check check) {
        CordBay bay = new CordBay();
        bay.module(Kinds.SHAPE, 0);
        bay.module(Kinds.SHAPE, 0);
        setAll(bay, 10);
        bay.keep(0);
        setAll(bay, 20);
        bay.keep(7);
        bay.module(Kinds.SHAPE, 0);
        setAll(bay, 30);
        check.due("recall(0)", bay.recall(0), 2);
        dueKnobs(check, bay, 10, 11, 12, 110, 111, 112, 230, 231, 232);
        check.due("recall(7)", bay.recall(7), 2);
        dueKnobs(check, bay, 20, 21, 22, 120, 121, 122, 230, 231, 232);
        check.due("recall(0) again", bay.recall(0), 2);
        dueKnobs(check, bay, 10, 11, 12, 110, 111, 112, 230, 231, 232);
        setAll(bay, 40);
        dueKnobs(check, bay, 40, 41, 42, 140, 141, 142, 240, 241, 242);
        bay.recall(0);
        dueKnobs(check, bay, 10, 11, 12, 110, 111, 112, 240, 241, 242);
    }

    private static void setAll(CordBay bay, int base) {
        for (int m = 0; m < bay.count(0); m++) {
            for (int k = 0; k < 3; k++) {
                bay.knob(m, k, base + 100 * m + k);
            }
        }
    }

    private static void dueKnobs(Check check, CordBay bay, int... want) {
        for (int i = 0; i < want.length; i++) {
            int was = bay.knob(i / 3, i % 3, 0);
            check.due("knob " + i % 3 + " of " + i / 3, was, want[i]);
            bay.knob(i / 3, i % 3, was);
        }
    }

    /** A SHAPE comes from what its KNOB was in the latest block, not from what was recalled. */
    private static void shapes(Check check) {
        CordBay bay = new CordBay();
        int source = Kinds.source(bay, Kinds.DOUBLES, 0, 256);
        int shape = Kinds.behind(bay, source, Kinds.SHAPE, 16);
        bay.keep(0);
        bay.knob(shape, 0, 0);
        bay.block(1);
        bay.recall(0);
        bay.block(2);
        check.dueRow(bay, shape, Kinds.DOUBLES, 1, 2);
    }
}
