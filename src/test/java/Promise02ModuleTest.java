public final class Promise02ModuleTest {
    public static void main(String[] args) {
        Check check = new Check();
        CordBay bay = new CordBay();
        int[][] wrong = {{-1, 0}, {11, 0}, {0, -1}, {0, 5}, {Integer.MIN_VALUE, 0},
            {Integer.MAX_VALUE, 0}, {0, Integer.MIN_VALUE}, {0, Integer.MAX_VALUE}};
        for (int[] w : wrong) {
            check.due("module(" + w[0] + ", " + w[1] + ")", bay.module(w[0], w[1]), -1);
        }
        check.due("count(0)", bay.count(0), 0);
        for (int m = 0; m < 24; m++) {
            check.due("module, no. " + m, bay.module(m % 11, m % 5), m);
            check.due("count(0)", bay.count(0), m + 1);
            check.due("count(40 + " + m + ")", bay.count(40 + m), m % 11);
            check.due("count(10 + " + m + ")", bay.count(10 + m), 0);
            check.due("row(" + m + ", 0)", bay.row(m, 0), -1);
            check.due("from(" + m + ", 0)", bay.from(m, 0), -1);
            check.due("from(" + m + ", 1)", bay.from(m, 1), -1);
            check.due("from(" + m + ", 2)", bay.from(m, 2), m % 11 == Kinds.MIX ? -1 : -2);
            for (int k = 0; k < 3; k++) {
                check.due("knob(" + m + ", " + k + ", 0)", bay.knob(m, k, 0), 0);
            }
        }
        check.due("module(0, 0), the 25th", bay.module(0, 0), -2);
        check.due("module(11, 0) of a full bay", bay.module(11, 0), -1);
        check.due("module(0, 5) of a full bay", bay.module(0, 5), -1);
        check.due("count(0)", bay.count(0), 24);
        check.due("from(24, 0)", bay.from(24, 0), -2);
        check.due("knob(24, 0, 0)", bay.knob(24, 0, 0), -2000);
        check.due("cord(24, 0, 0)", bay.cord(24, 0, 0), -1);
        check.due("cord(0, 24, 0)", bay.cord(0, 24, 0), -1);
        check.due("take(24)", bay.take(24), -1);
        check.due("row(24, 0)", bay.row(24, 0), -2);
        check.due("sample(24, 0)", bay.sample(24, 0), 0);
        check.due("isNone(24, 0)", bay.isNone(24, 0), false);
        check.due("order(24)", bay.order(24), -1);
        check.end();
    }
}
