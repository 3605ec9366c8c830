public final class Promise19FindingTest {
    public static void main(String[] args) {
        Check check = new Check();
        CordBay bay = new CordBay();
        dueNone(check, bay);
        int source = Kinds.source(bay, Kinds.INTS, 0, 1, 2, 3);
        bay.block(1);
        dueNone(check, bay);
        int mean = Kinds.behind(bay, source, Kinds.MEAN, -1);
        check.dueFinding(bay, 4, 5, mean, 1);
        for (int what : new int[] {-1, 3, Integer.MIN_VALUE, Integer.MAX_VALUE}) {
            check.due("finding(" + what + ")", bay.finding(what), -1);
        }
        // Only a block changes it.
        bay.knob(mean, 0, 1);
        bay.module(Kinds.MIX, 0);
        bay.back(1);
        bay.block(17);
        check.due("finding(0)", bay.finding(0), 5);
        check.due("finding(1)", bay.finding(1), mean);
        check.due("finding(2)", bay.finding(2), 1);
        bay.block(1);
        dueNone(check, bay);
        bay.table(0, -1);
        check.dueFinding(bay, 1, 2, source, -1);
        bay.table(0, 0);
        check.dueFinding(bay, 1, 5, source, 0);
        check.end();
    }

    private static void dueNone(Check check, CordBay bay) {
        for (int what = -1; what <= 3; what++) {
            check.due("finding(" + what + ")", bay.finding(what), -1);
        }
    }
}
