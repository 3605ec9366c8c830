/** GATE and SWITCH. */
public final class Promise08GateTest {
    public static void main(String[] args) {
        Check check = new Check();
        gate(check);
        gateFindings(check);
        gateTakenBack(check);
        switching(check);
        switchFindings(check);
        check.end();
    }

    private static void gate(Check check) {
        CordBay bay = new CordBay();
        // KNOBS 8 and -8 stand for 1 and -1, which the table has as 256 and -256.
        int source = Kinds.source(bay, Kinds.DOUBLES, 0, 255, 256, 0, -255, Kinds.LEAST, -256, 0,
            Kinds.LEAST, 257, -257, 256000000);
        int gate = Kinds.behind(bay, source, Kinds.GATE, 8, -8);
        bay.block(11);
        check.dueRow(bay, gate, Kinds.GATES, 0, 1, 1, 1, 1, 0, 0, 0, 1, 0, 1);
        bay.block(1);
        check.dueRow(bay, gate, Kinds.GATES, 1);
        // Where both hold, the first one counts.
        bay.knob(gate, 0, -1000);
        bay.knob(gate, 1, 1000);
        bay.block(5);
        check.dueRow(bay, gate, Kinds.GATES, 1, 1, 1, 1, 1);
        bay.knob(gate, 0, 1000);
        bay.block(5);
        check.dueRow(bay, gate, Kinds.GATES, 0, 0, 0, 0, 1);
    }

    private static void gateFindings(Check check) {
        CordBay bay = new CordBay();
        int gate = bay.module(Kinds.GATE, 0);
        check.dueFinding(bay, 1, 1, gate, -1);
        bay.cord(bay.module(Kinds.MIX, 0), gate, 0);
        check.dueFinding(bay, 1, 2, gate, -1);
        for (int rowKind = 0; rowKind < 4; rowKind++) {
            bay.cord(Kinds.source(bay, rowKind, 0, 1), gate, 0);
            check.dueFinding(bay, 1, 4, gate, -1);
        }
        int source = Kinds.source(bay, Kinds.DOUBLES, 0, 1);
        int delay = Kinds.behind(bay, source, Kinds.DELAY, 1);
        bay.cord(source, gate, 0);
        bay.block(3);
        bay.cord(delay, gate, 0);
        check.dueFinding(bay, 5, 3, gate, 3);
    }

    /** UP is as it was ahead of a block that was taken back, or that failed. */
    private static void gateTakenBack(Check check) {
        CordBay bay = new CordBay();
        int source = Kinds.source(bay, Kinds.DOUBLES, 0, 0, 300, 0);
        int gate = Kinds.behind(bay, source, Kinds.GATE, 8, -8);
        bay.block(1);
        bay.block(1);
        check.dueRow(bay, gate, Kinds.GATES, 1);
        bay.back(1);
        bay.write(0, 1, 0);
        bay.block(1);
        check.dueRow(bay, gate, Kinds.GATES, 0);
        bay.write(0, 2, 300);
        int lone = bay.module(Kinds.SHAPE, 0);
        check.dueFinding(bay, 1, 1, lone, -1);
        bay.cord(source, lone, 0);
        bay.write(0, 2, 0);
        bay.block(1);
        check.dueRow(bay, gate, Kinds.GATES, 0);
    }

    private static void switching(Check check) {
        for (int rowKind = 0; rowKind <= 4; rowKind++) {
            CordBay bay = new CordBay();
            int source = Kinds.source(bay, rowKind, 0, 256, 0, Kinds.LEAST);
            int gate = Kinds.source(bay, Kinds.GATES, 1, 0, 1, 1, 0);
            int through = Kinds.behind(bay, source, Kinds.SWITCH);
            bay.cord(gate, through, 1);
            bay.block(3);
            check.due("row(through, 0)", bay.row(through, 0), rowKind);
            check.due("row(through, 1)", bay.row(through, 1), 3);
            check.due("sample(through, 0)", bay.sample(through, 0), bay.sample(source, 0));
            check.due("isNone(through, 2)", bay.isNone(through, 2), bay.isNone(source, 2));
            check.due("equal", bay.equal(bay.take(source), bay.take(through)), 1);
            bay.block(1);
            check.due("row(through, 0), shut", bay.row(through, 0), -1);
            check.due("finding(0)", bay.finding(0), -1);
        }
        // The row of in 0 goes through as it is, shorter than the block, too.
        CordBay bay = new CordBay();
        int gate = Kinds.source(bay, Kinds.GATES, 0, 1);
        int delay = Kinds.behind(bay, gate, Kinds.DELAY);
        bay.block(2);
        int through = Kinds.behind(bay, delay, Kinds.SWITCH);
        bay.cord(gate, through, 1);
        check.due("block(5)", bay.block(5), 0);
        check.dueRow(bay, through, Kinds.GATES, 1, 1);
    }

    private static void switchFindings(Check check) {
        CordBay bay = new CordBay();
        int through = bay.module(Kinds.SWITCH, 0);
        int silent = bay.module(Kinds.MIX, 0);
        int gate = Kinds.source(bay, Kinds.GATES, 0, 0);
        int ints = Kinds.source(bay, Kinds.INTS, 1, 1);
        int delay = Kinds.behind(bay, gate, Kinds.DELAY);
        check.dueFinding(bay, 1, 1, through, -1);
        bay.cord(gate, through, 1);
        check.dueFinding(bay, 1, 1, through, -1);
        bay.cord(silent, through, 0);
        check.dueFinding(bay, 1, 2, through, -1);
        bay.cord(-1, through, 1);
        check.dueFinding(bay, 1, 2, through, -1);
        bay.cord(ints, through, 1);
        check.dueFinding(bay, 1, 2, through, -1);
        bay.cord(ints, through, 0);
        check.dueFinding(bay, 1, 4, through, -1);
        bay.cord(silent, through, 1);
        check.dueFinding(bay, 1, 2, through, -1);
        bay.cord(-1, through, 1);
        check.dueFinding(bay, 1, 1, through, -1);
        bay.cord(gate, through, 1);
        check.due("block(3)", bay.block(3), 0);
        bay.cord(delay, through, 1);
        check.dueFinding(bay, 16, 3, through, 15);
        check.dueFinding(bay, 4, 3, through, 3);
        check.due("block(3)", bay.block(3), 0);
    }
}
