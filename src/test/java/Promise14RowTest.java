public final class Promise14RowTest {
    public static void main(String[] args) {
        Check check = new Check();
        CordBay bay = new CordBay();
        for (int kind = 0; kind <= 4; kind++) {
            Kinds.source(bay, kind, 0, 0, 0, Kinds.LEAST, 9, Kinds.LEAST);
        }
        check.due("row(0, 0) ahead of a block", bay.row(0, 0), -1);
        check.due("row(0, 3) ahead of a block", bay.row(0, 3), -1);
        check.due("row(0, 4) ahead of a block", bay.row(0, 4), -2);
        check.due("row(0, -1) ahead of a block", bay.row(0, -1), -2);
        bay.block(2);
        dueRows(check, bay, 2, new int[] {1, 1, 1, 1, 1}, new int[5]);
        bay.block(1);
        // GATES have 0 for what is below 0; NO NUMBER is not 0.
        dueRows(check, bay, 1, new int[] {1, 0, 0, 0, 0}, new int[] {0, 0, 0, 1, 1});
        bay.block(4);
        dueRows(check, bay, 4, new int[5], new int[] {0, 0, 0, 1, 1});
        bay.back(3);
        bay.block(16);
        dueRows(check, bay, 16, new int[5], new int[] {0, 0, 0, 6, 6});
        for (int m : new int[] {-1, 5, Integer.MIN_VALUE, Integer.MAX_VALUE}) {
            check.due("row(" + m + ", 0)", bay.row(m, 0), -2);
        }
        for (int what : new int[] {-1, 4, Integer.MIN_VALUE, Integer.MAX_VALUE}) {
            check.due("row(0, " + what + ")", bay.row(0, what), -2);
        }
        check.end();
    }

    private static void dueRows(Check check, CordBay bay, int n, int[] silent, int[] none) {
        for (int m = 0; m < 5; m++) {
            check.due("row(" + m + ", 0)", bay.row(m, 0), m);
            check.due("row(" + m + ", 1)", bay.row(m, 1), n);
            check.due("row(" + m + ", 2)", bay.row(m, 2), silent[m]);
            check.due("row(" + m + ", 3)", bay.row(m, 3), none[m]);
        }
    }
}
