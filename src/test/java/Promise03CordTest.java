public final class Promise03CordTest {
    public static void main(String[] args) {
        Check check = new Check();
        wrongInputs(check);
        replacing(check);
        shortest(check);
        delays(check);
        longest(check);
        check.end();
    }

    private static void wrongInputs(Check check) {
        CordBay bay = new CordBay();
        bay.module(Kinds.SHAPE, 0);
        bay.module(Kinds.MIX, 0);
        int[][] wrong = {{0, 2, 0}, {0, -1, 0}, {0, 0, 2}, {0, 0, -1}, {0, 1, 3}, {2, 1, 0},
            {-2, 1, 0}, {Integer.MIN_VALUE, 1, 0}, {Integer.MAX_VALUE, 1, 0}, {-1, 2, 0},
            {-1, 0, 2}, {0, 1, Integer.MIN_VALUE}, {0, 1, Integer.MAX_VALUE}};
        for (int[] w : wrong) {
            check.due("cord(" + w[0] + ", " + w[1] + ", " + w[2] + ")", bay.cord(w[0], w[1], w[2]), -1);
        }
        check.due("count(1)", bay.count(1), 0);
        check.due("cord(0, 1, 2)", bay.cord(0, 1, 2), 1);
    }

    private static void replacing(Check check) {
        CordBay bay = new CordBay();
        for (int i = 0; i < 3; i++) {
            bay.module(Kinds.SHAPE, 0);
        }
        check.due("cord(0, 2, 0)", bay.cord(0, 2, 0), 1);
        check.due("cord(1, 2, 0)", bay.cord(1, 2, 0), 1);
        check.due("from(2, 0)", bay.from(2, 0), 1);
        check.due("count(1)", bay.count(1), 1);
        check.due("cord(2, 0, 0), the old cord is gone", bay.cord(2, 0, 0), 1);
        check.due("cord(0, 2, 0) closes a loop", bay.cord(0, 2, 0), -12);
        check.due("from(2, 0) after a refusal", bay.from(2, 0), 1);
        check.due("cord(-1, 0, 0)", bay.cord(-1, 0, 0), 1);
        check.due("cord(-1, 0, 0) again", bay.cord(-1, 0, 0), 1);
        check.due("from(0, 0)", bay.from(0, 0), -1);
        check.due("cord(0, 2, 0)", bay.cord(0, 2, 0), 1);
    }

    private static void shortest(Check check) {
        CordBay bay = new CordBay();
        for (int i = 0; i < 6; i++) {
            bay.module(Kinds.MIX, 0);
        }
        // A long way 0 1 2 3 4 and a short one 0 5 4; in 2 counts like the others.
        bay.cord(0, 1, 0);
        bay.cord(1, 2, 0);
        bay.cord(2, 3, 0);
        bay.cord(3, 4, 0);
        check.due("cord(4, 0, 0)", bay.cord(4, 0, 0), -15);
        bay.cord(0, 5, 2);
        bay.cord(5, 4, 2);
        check.due("cord(4, 0, 1)", bay.cord(4, 0, 1), -13);
        check.due("cord(4, 1, 1)", bay.cord(4, 1, 1), -14);
        check.due("cord(3, 3, 2)", bay.cord(3, 3, 2), -11);
        check.due("cord(1, 0, 0)", bay.cord(1, 0, 0), -12);
        check.due("cord(1, 5, 0), no loop", bay.cord(1, 5, 0), 1);
    }

    private static void delays(Check check) {
        CordBay bay = new CordBay();
        bay.module(Kinds.SHAPE, 0);
        bay.module(Kinds.DELAY, 0);
        bay.module(Kinds.SHAPE, 0);
        check.due("cord(1, 1, 0), a DELAY on itself", bay.cord(1, 1, 0), 1);
        check.due("cord(0, 1, 0)", bay.cord(0, 1, 0), 1);
        check.due("cord(1, 2, 0)", bay.cord(1, 2, 0), 1);
        check.due("cord(2, 0, 0), through a DELAY", bay.cord(2, 0, 0), 1);
        check.due("cord(0, 2, 1), no loop without one", bay.cord(0, 2, 1), -12);
        check.due("cord(1, 0, 1), from a DELAY", bay.cord(1, 0, 1), 1);
        check.due("cord(2, 1, 1), to a DELAY", bay.cord(2, 1, 1), 1);
    }

    private static void longest(Check check) {
        CordBay bay = new CordBay();
        for (int m = 0; m < 24; m++) {
            bay.module(Kinds.TURN, 0);
            if (m > 0) {
                bay.cord(m - 1, m, m % 2);
            }
        }
        check.due("cord(23, 0, 0)", bay.cord(23, 0, 0), -34);
    }
}
