public final class Promise06TableTest {
    public static void main(String[] args) {
        Check check = new Check();
        CordBay bay = new CordBay();
        int[][] wrong = {{-1, 1}, {8, 1}, {0, -2}, {0, 17}, {Integer.MIN_VALUE, 1},
            {Integer.MAX_VALUE, 1}, {0, Integer.MIN_VALUE}, {0, Integer.MAX_VALUE}};
        for (int[] w : wrong) {
            check.due("table(" + w[0] + ", " + w[1] + ")", bay.table(w[0], w[1]), -1);
        }
        check.due("write(0, 0, 1)", bay.write(0, 0, 1), -2);
        for (int n = 0; n <= 16; n++) {
            check.due("table(7, " + n + ")", bay.table(7, n), 1);
            check.due("write(7, " + (n - 1) + ", 1)", bay.write(7, n - 1, 1), n == 0 ? -3 : 1);
            check.due("write(7, " + n + ", 1)", bay.write(7, n, 1), -3);
        }
        check.due("table(7, 17)", bay.table(7, 17), -1);
        check.due("write(7, 15, 1), it stayed", bay.write(7, 15, 1), 1);
        check.due("table(7, -1)", bay.table(7, -1), 1);
        check.due("write(7, 0, 1)", bay.write(7, 0, 1), -2);
        newPlacesAreZero(check);
        check.end();
    }

    private static void newPlacesAreZero(Check check) {
        CordBay bay = new CordBay();
        int m = Kinds.source(bay, Kinds.INTS, 3, 4, 5, 6);
        bay.block(3);
        check.dueRow(bay, m, Kinds.INTS, 4, 5, 6);
        bay.table(3, 3);
        bay.block(3);
        check.dueRow(bay, m, Kinds.INTS, 0, 0, 0);
        bay.write(3, 2, 9);
        bay.table(3, -1);
        bay.table(3, 3);
        bay.block(3);
        check.dueRow(bay, m, Kinds.INTS, 0, 0, 0);
        bay.write(3, 2, 9);
        bay.table(3, 2);
        bay.table(3, 3);
        bay.block(3);
        check.dueRow(bay, m, Kinds.INTS, 0, 0, 0);
    }
}
