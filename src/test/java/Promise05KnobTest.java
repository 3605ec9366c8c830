public final class Promise05KnobTest {
    public static void main(String[] args) {
        Check check = new Check();
        CordBay bay = new CordBay();
        check.due("knob(0, 0, 0) of an empty bay", bay.knob(0, 0, 0), -2000);
        bay.module(Kinds.SHAPE, 0);
        bay.module(Kinds.SHAPE, 0);
        check.due("knob(0, 0, 1000)", bay.knob(0, 0, 1000), 0);
        check.due("knob(0, 0, -1000)", bay.knob(0, 0, -1000), 1000);
        check.due("knob(0, 2, 7)", bay.knob(0, 2, 7), 0);
        int[][] wrong = {{0, 0, 1001}, {0, 0, -1001}, {0, -1, 0}, {0, 3, 0}, {2, 0, 0}, {-1, 0, 0},
            {0, 0, Integer.MIN_VALUE}, {0, 0, Integer.MAX_VALUE}, {Integer.MIN_VALUE, 0, 0},
            {Integer.MAX_VALUE, 0, 0}, {0, Integer.MIN_VALUE, 0}, {0, Integer.MAX_VALUE, 0}};
        for (int[] w : wrong) {
            check.due("knob(" + w[0] + ", " + w[1] + ", " + w[2] + ")", bay.knob(w[0], w[1], w[2]), -2000);
        }
        check.due("knob(0, 0, 5)", bay.knob(0, 0, 5), -1000);
        check.due("knob(0, 1, 5)", bay.knob(0, 1, 5), 0);
        check.due("knob(0, 2, 5)", bay.knob(0, 2, 5), 7);
        check.due("knob(1, 0, 5)", bay.knob(1, 0, 5), 0);
        check.end();
    }
}
