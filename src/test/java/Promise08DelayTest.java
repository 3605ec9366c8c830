public final class Promise08DelayTest {
    public static void main(String[] args) {
        Check check = new Check();
        blocksAgo(check);
        asItIs(check);
        loop(check);
        chain(check);
        fedNone(check);
        check.end();
    }

    private static void blocksAgo(Check check) {
        CordBay bay = new CordBay();
        int source = Kinds.source(bay, Kinds.INTS, 0, 0, 1, 2, 3, 4, 5, 6, 7, 8, 9);
        int[] knobs = {1, 2, 3, 4, 5, 1000, 0, -1000};
        int[] ago = {1, 2, 3, 4, 4, 4, 1, 1};
        for (int knob : knobs) {
            Kinds.behind(bay, source, Kinds.DELAY, knob);
        }
        for (int block = 0; block < 10; block++) {
            check.due("block(1)", bay.block(1), 0);
            for (int d = 0; d < knobs.length; d++) {
                if (block < ago[d]) {
                    check.due("row of DELAY " + d + " in block " + block, bay.row(d + 1, 0), -1);
                } else {
                    check.dueRow(bay, d + 1, Kinds.INTS, block - ago[d]);
                }
            }
        }
        for (int d = 0; d < knobs.length; d++) {
            check.due("count(10 + " + d + "), no SATURATION", bay.count(11 + d), 0);
        }
        // What was fed stays when the knob is turned, and a new DELAY was fed nothing.
        bay.knob(1, 0, 4);
        int late = Kinds.behind(bay, source, Kinds.DELAY, 1);
        bay.block(1);
        check.dueRow(bay, 1, Kinds.INTS, 6);
        check.due("row(late, 0)", bay.row(late, 0), -1);
        bay.block(1);
        check.dueRow(bay, late, Kinds.INTS, 0);
    }

    private static void asItIs(Check check) {
        CordBay bay = new CordBay();
        int source = Kinds.source(bay, Kinds.FLOATS, 0, 256, Kinds.LEAST, -128);
        int delay = Kinds.behind(bay, source, Kinds.DELAY, 1);
        bay.block(3);
        bay.block(1);
        check.dueRow(bay, delay, Kinds.FLOATS, 1, Kinds.NONE, -0.5);
        bay.block(2);
        check.dueRow(bay, delay, Kinds.FLOATS, 1);
    }

    private static void loop(Check check) {
        CordBay bay = new CordBay();
        int source = Kinds.source(bay, Kinds.INTS, 0, 1);
        int mix = Kinds.behind(bay, source, Kinds.MIX);
        int delay = Kinds.behind(bay, mix, Kinds.DELAY, 1);
        check.due("cord(delay, mix, 1)", bay.cord(delay, mix, 1), 1);
        for (int block = 1; block <= 12; block++) {
            bay.block(2);
            check.dueRow(bay, mix, Kinds.INTS, block, block);
        }
        int self = bay.module(Kinds.DELAY, 0);
        bay.cord(self, self, 0);
        check.due("block(1)", bay.block(1), 0);
        check.due("row(self, 0)", bay.row(self, 0), -1);
        bay.cord(source, self, 0);
        bay.block(1);
        bay.cord(self, self, 0);
        bay.block(1);
        bay.block(1);
        check.dueRow(bay, self, Kinds.INTS, 1);
    }

    /** A DELAY behind a DELAY is fed what that one gives in this block, whatever their numbers. */
    private static void chain(Check check) {
        CordBay bay = new CordBay();
        int last = bay.module(Kinds.DELAY, 0);
        int source = Kinds.source(bay, Kinds.INTS, 0, 1, 2, 3, 4, 5);
        int first = Kinds.behind(bay, source, Kinds.DELAY);
        int third = Kinds.behind(bay, first, Kinds.DELAY);
        bay.cord(first, last, 0);
        for (int block = 0; block < 4; block++) {
            bay.block(1);
        }
        check.dueRow(bay, first, Kinds.INTS, 3);
        check.dueRow(bay, last, Kinds.INTS, 2);
        check.dueRow(bay, third, Kinds.INTS, 2);
    }

    private static void fedNone(Check check) {
        CordBay bay = new CordBay();
        int source = Kinds.source(bay, Kinds.INTS, 0, 1, 2, 3, 4, 5, 6);
        int delay = Kinds.behind(bay, source, Kinds.DELAY, 2);
        bay.block(1);
        bay.cord(-1, delay, 0);
        bay.block(1);
        bay.cord(bay.module(Kinds.MIX, 0), delay, 0);
        bay.block(1);
        check.dueRow(bay, delay, Kinds.INTS, 1);
        bay.cord(source, delay, 0);
        bay.block(1);
        check.due("row(delay, 0), NOWHERE two blocks ago", bay.row(delay, 0), -1);
        bay.block(1);
        check.due("row(delay, 0), no row two blocks ago", bay.row(delay, 0), -1);
        bay.block(1);
        check.dueRow(bay, delay, Kinds.INTS, 4);
        check.due("no finding", bay.finding(0), -1);
    }
}
