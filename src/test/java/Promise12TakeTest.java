public final class Promise12TakeTest {
    public static void main(String[] args) {
        Check check = new Check();
        CordBay bay = new CordBay();
        check.due("take(0) of an empty bay", bay.take(0), -1);
        int source = Kinds.source(bay, Kinds.INTS, 0, 1, 2, 3);
        int silent = bay.module(Kinds.MIX, 0);
        check.due("take(source) ahead of a block", bay.take(source), -2);
        bay.block(1);
        for (int m : new int[] {-1, 2, 24, Integer.MIN_VALUE, Integer.MAX_VALUE}) {
            check.due("take(" + m + ")", bay.take(m), -1);
        }
        check.due("take(silent)", bay.take(silent), -2);
        check.due("count(4)", bay.count(4), 0);
        for (int t = 1; t <= 40; t++) {
            check.due("take(source)", bay.take(source), t);
            check.due("count(4)", bay.count(4), t);
        }
        check.due("take(source), the 41st", bay.take(source), -3);
        check.due("take(silent) of a full bay", bay.take(silent), -2);
        check.due("take(9) of a full bay", bay.take(9), -1);
        check.due("count(4)", bay.count(4), 40);
        check.due("equal(1, 40)", bay.equal(1, 40), 1);
        keepsTheRow(check);
        check.end();
    }

    private static void keepsTheRow(Check check) {
        CordBay bay = new CordBay();
        int source = Kinds.source(bay, Kinds.INTS, 0, 1, 2);
        bay.block(2);
        bay.take(source);
        bay.block(1);
        bay.take(source);
        check.due("equal(1, 2)", bay.equal(1, 2), 0);
        for (int i = 0; i < 20; i++) {
            bay.block(1);
        }
        bay.block(1);
        bay.block(2);
        bay.take(source);
        check.due("equal(1, 3), many blocks later", bay.equal(1, 3), 1);
        bay.back(8);
        check.due("equal(1, 3), taken back", bay.equal(1, 3), 1);
    }
}
