public final class Promise10KeepTest {
    public static void main(String[] args) {
        Check check = new Check();
        CordBay bay = new CordBay();
        check.due("keep(0) of no modules", bay.keep(0), 0);
        for (int p : new int[] {-1, 8, Integer.MIN_VALUE, Integer.MAX_VALUE}) {
            check.due("keep(" + p + ")", bay.keep(p), -1);
        }
        for (int m = 0; m < 24; m++) {
            bay.module(Kinds.SHAPE, 0);
            check.due("keep(7)", bay.keep(7), m + 1);
        }
        bay.knob(23, 2, 5);
        check.due("keep(3)", bay.keep(3), 24);
        bay.knob(23, 2, 6);
        check.due("keep(3), anew", bay.keep(3), 24);
        bay.knob(23, 2, 7);
        check.due("recall(3)", bay.recall(3), 24);
        check.due("knob(23, 2, 0)", bay.knob(23, 2, 0), 6);
        check.due("recall(2)", bay.recall(2), -2);
        check.end();
    }
}
