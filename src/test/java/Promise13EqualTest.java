public final class Promise13EqualTest {
    public static void main(String[] args) {
        Check check = new Check();
        wrongInputs(check);
        kindsAndLengths(check);
        zeros(check);
        noNumbers(check);
        firstSample(check);
        lastSample(check);
        check.end();
    }

    private static void wrongInputs(Check check) {
        CordBay bay = new CordBay();
        int source = Kinds.source(bay, Kinds.INTS, 0, 1);
        bay.block(1);
        bay.take(source);
        bay.take(source);
        for (int t : new int[] {0, -1, 3, 41, Integer.MIN_VALUE, Integer.MAX_VALUE}) {
            check.due("equal(" + t + ", 1)", bay.equal(t, 1), -1);
            check.due("equal(1, " + t + ")", bay.equal(1, t), -1);
            check.due("equal(" + t + ", " + t + ")", bay.equal(t, t), -1);
        }
        check.due("equal(1, 2)", bay.equal(1, 2), 1);
        check.due("equal(2, 2)", bay.equal(2, 2), 1);
    }

    private static void kindsAndLengths(Check check) {
        CordBay bay = new CordBay();
        for (int kind = 0; kind <= 4; kind++) {
            Kinds.source(bay, kind, 0, 0);
        }
        bay.block(2);
        for (int m = 0; m < 5; m++) {
            bay.take(m);
        }
        bay.block(3);
        for (int m = 0; m < 5; m++) {
            bay.take(m);
        }
        bay.block(2);
        for (int m = 0; m < 5; m++) {
            bay.take(m);
        }
        for (int t = 1; t <= 15; t++) {
            for (int u = 1; u <= 15; u++) {
                boolean same = (t - u) % 5 == 0 && (t > 5 && t <= 10) == (u > 5 && u <= 10);
                check.due("equal(" + t + ", " + u + ")", bay.equal(t, u), same ? 1 : 0);
            }
        }
    }

    /** A SHAPE whose g is -0.0 or below makes a zero with a sign. */
    private static void zeros(Check check) {
        CordBay bay = new CordBay();
        int source = Kinds.source(bay, Kinds.DOUBLES, 0, 0);
        int minus = Kinds.behind(bay, source, Kinds.SHAPE, -8);
        int floats = Kinds.turn(bay, source, Kinds.FLOATS);
        int minusFloats = Kinds.turn(bay, minus, Kinds.FLOATS);
        int doubles = Kinds.turn(bay, minus, Kinds.DOUBLES);
        int ints = Kinds.turn(bay, minus, Kinds.INTS);
        int plainInts = Kinds.turn(bay, source, Kinds.INTS);
        bay.block(3);
        for (int m : new int[] {source, minus, floats, minusFloats, doubles, ints, plainInts}) {
            bay.take(m);
            check.due("row(" + m + ", 2)", bay.row(m, 2), 1);
        }
        check.due("equal of 0 and -0", bay.equal(1, 2), 0);
        check.due("equal of -0 and 0", bay.equal(2, 1), 0);
        check.due("equal of -0 and -0", bay.equal(2, 5), 1);
        check.due("equal of floats 0 and -0", bay.equal(3, 4), 0);
        check.due("equal of ints, which have one 0", bay.equal(6, 7), 1);
    }

    private static void noNumbers(Check check) {
        CordBay bay = new CordBay();
        int source = Kinds.source(bay, Kinds.DOUBLES, 0, 0, Kinds.LEAST);
        int shape = Kinds.behind(bay, source, Kinds.SHAPE, 8);
        int other = Kinds.source(bay, Kinds.DOUBLES, 1, 0, 0);
        bay.block(2);
        bay.take(source);
        bay.take(shape);
        bay.take(other);
        check.due("equal, each NO NUMBER to each", bay.equal(1, 2), 1);
        check.due("equal of NO NUMBER and 0", bay.equal(1, 3), 0);
        check.due("equal of 0 and NO NUMBER", bay.equal(3, 2), 0);
    }

    private static void firstSample(Check check) {
        CordBay bay = new CordBay();
        int a = Kinds.source(bay, Kinds.INTS, 0, 1, 7);
        int b = Kinds.source(bay, Kinds.INTS, 1, 2, 7);
        bay.block(2);
        bay.take(a);
        bay.take(b);
        check.due("equal(1, 2)", bay.equal(1, 2), 0);
    }

    private static void lastSample(Check check) {
        CordBay bay = new CordBay();
        int a = Kinds.source(bay, Kinds.INTS, 0, 0, 0, 0, 0, 0, 0, 0, 0, 0, 0, 0, 0, 0, 0, 0, 5);
        int b = Kinds.source(bay, Kinds.INTS, 1, 0, 0, 0, 0, 0, 0, 0, 0, 0, 0, 0, 0, 0, 0, 0, 6);
        bay.block(15);
        bay.take(a);
        bay.take(b);
        check.due("equal(1, 2)", bay.equal(1, 2), 1);
        bay.back(1);
        bay.block(16);
        bay.take(a);
        bay.take(b);
        check.due("equal(3, 4)", bay.equal(3, 4), 0);
    }
}
