/** MIX and MEAN. */
public final class Promise08MixTest {
    private static final int MAX = Integer.MAX_VALUE;

    public static void main(String[] args) {
        Check check = new Check();
        mixOfThree(check);
        mixHeldOnce(check);
        mixFindings(check);
        mean(check);
        meanHeld(check);
        meanFindings(check);
        check.end();
    }

    private static void mixOfThree(Check check) {
        CordBay bay = new CordBay();
        int a = Kinds.source(bay, Kinds.INTS, 0, 1, -2);
        int b = Kinds.source(bay, Kinds.INTS, 1, 10, 20);
        int mix = bay.module(Kinds.MIX, Kinds.DOUBLES);
        check.due("block(2)", bay.block(2), 0);
        check.due("row(mix, 0), of nothing", bay.row(mix, 0), -1);
        bay.cord(a, mix, 2);
        bay.block(2);
        check.dueRow(bay, mix, Kinds.INTS, 1, -2);
        bay.cord(b, mix, 0);
        bay.cord(b, mix, 1);
        bay.block(2);
        check.dueRow(bay, mix, Kinds.INTS, 21, 38);
        int silent = bay.module(Kinds.MIX, 0);
        bay.cord(silent, mix, 0);
        bay.block(2);
        check.dueRow(bay, mix, Kinds.INTS, 11, 18);
        bay.cord(silent, mix, 1);
        bay.cord(silent, mix, 2);
        check.due("block(2)", bay.block(2), 0);
        check.due("row(mix, 0), of modules that give none", bay.row(mix, 0), -1);
    }

    private static void mixHeldOnce(Check check) {
        CordBay bay = new CordBay();
        int a = Kinds.source(bay, Kinds.INTS, 0, MAX, Kinds.LEAST, MAX, MAX);
        int b = Kinds.source(bay, Kinds.INTS, 1, MAX, Kinds.LEAST, 0, 1);
        int c = Kinds.source(bay, Kinds.INTS, 2, -5, 5, 0, 0);
        int mix = bay.module(Kinds.MIX, 0);
        bay.cord(a, mix, 0);
        bay.cord(b, mix, 1);
        bay.cord(c, mix, 2);
        bay.block(4);
        check.dueRow(bay, mix, Kinds.INTS, MAX, Kinds.LEAST, MAX, MAX);
        check.due("count(10 + mix)", bay.count(10 + mix), 3);
        // The sum is held, not what stands on the way to it.
        Kinds.fill(bay, 0, MAX);
        Kinds.fill(bay, 1, 10);
        Kinds.fill(bay, 2, -20);
        bay.block(1);
        check.dueRow(bay, mix, Kinds.INTS, MAX - 10);
        check.due("count(10 + mix)", bay.count(10 + mix), 3);
    }

    private static void mixFindings(Check check) {
        for (int rowKind = 0; rowKind <= 4; rowKind++) {
            if (rowKind != Kinds.INTS) {
                for (int in = 0; in < 3; in++) {
                    CordBay bay = new CordBay();
                    int mix = bay.module(Kinds.MIX, 0);
                    bay.cord(Kinds.source(bay, rowKind, 0, 1), mix, in);
                    check.dueFinding(bay, 1, 4, mix, -1);
                }
            }
        }
        CordBay bay = new CordBay();
        int source = Kinds.source(bay, Kinds.INTS, 0, 1);
        int delay = Kinds.behind(bay, source, Kinds.DELAY, 1);
        int mix = Kinds.behind(bay, source, Kinds.MIX);
        bay.cord(delay, mix, 1);
        check.due("block(2)", bay.block(2), 0);
        check.dueFinding(bay, 4, 3, mix, 2);
        check.due("block(1)", bay.block(1), 0);
        check.dueRow(bay, mix, Kinds.INTS, 2);
    }

    private static void mean(Check check) {
        CordBay bay = new CordBay();
        int source = Kinds.source(bay, Kinds.INTS, 0, 7, -10, -4, 100);
        int mean = Kinds.behind(bay, source, Kinds.MEAN, 1);
        bay.block(4);
        check.dueRow(bay, mean, Kinds.INTS, 7, -1, -2, 23);
        bay.knob(mean, 0, -10);
        bay.block(4);
        check.dueRow(bay, mean, Kinds.INTS, 0, 0, 0, -13);
        bay.knob(mean, 0, 1000);
        bay.block(4);
        check.dueRow(bay, mean, Kinds.INTS, 0, 0, 0, 0);
        check.due("row(mean, 2)", bay.row(mean, 2), 1);
    }

    private static void meanHeld(Check check) {
        CordBay bay = new CordBay();
        int source = Kinds.source(bay, Kinds.INTS, 0, MAX, MAX, MAX);
        int mean = Kinds.behind(bay, source, Kinds.MEAN, 1);
        bay.block(3);
        check.dueRow(bay, mean, Kinds.INTS, MAX, MAX, MAX);
        check.due("count(10 + mean)", bay.count(10 + mean), 0);
        bay.knob(mean, 0, -3);
        bay.block(3);
        check.dueRow(bay, mean, Kinds.INTS, -715827882, -MAX, Kinds.LEAST);
        check.due("count(10 + mean)", bay.count(10 + mean), 1);
        Kinds.fill(bay, 0, Kinds.LEAST);
        bay.knob(mean, 0, -1);
        bay.block(1);
        check.dueRow(bay, mean, Kinds.INTS, MAX);
        check.due("count(10 + mean), of 2^31", bay.count(10 + mean), 2);
        bay.knob(mean, 0, 1);
        bay.block(1);
        check.dueRow(bay, mean, Kinds.INTS, Kinds.LEAST);
        check.due("count(10 + mean)", bay.count(10 + mean), 2);
    }

    private static void meanFindings(Check check) {
        CordBay bay = new CordBay();
        int mean = bay.module(Kinds.MEAN, 0);
        check.dueFinding(bay, 1, 1, mean, -1);
        bay.cord(bay.module(Kinds.MIX, 0), mean, 0);
        check.dueFinding(bay, 1, 2, mean, -1);
        for (int rowKind = 0; rowKind <= 4; rowKind++) {
            if (rowKind != Kinds.INTS) {
                bay.cord(Kinds.source(bay, rowKind, 0, 1), mean, 0);
                check.dueFinding(bay, 1, 4, mean, -1);
            }
        }
        int source = Kinds.source(bay, Kinds.INTS, 0, 1);
        int delay = Kinds.behind(bay, source, Kinds.DELAY, 1);
        bay.cord(source, mean, 0);
        check.dueFinding(bay, 2, 5, mean, 0);
        bay.knob(mean, 0, -15);
        check.due("block(15)", bay.block(15), 0);
        check.dueFinding(bay, 16, 5, mean, 15);
        bay.cord(delay, mean, 0);
        bay.knob(mean, 0, 1);
        check.dueFinding(bay, 16, 3, mean, 15);
        // A sample is wanted ahead of the division.
        bay.knob(mean, 0, -15);
        check.dueFinding(bay, 16, 3, mean, 15);
        bay.knob(mean, 0, -14);
        check.dueFinding(bay, 16, 5, mean, 14);
    }
}
