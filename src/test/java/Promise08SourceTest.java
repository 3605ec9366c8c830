public final class Promise08SourceTest {
    private static final int MAX = Integer.MAX_VALUE;

    public static void main(String[] args) {
        Check check = new Check();
        rowKinds(check);
        places(check);
        findings(check);
        check.end();
    }

    private static void rowKinds(Check check) {
        int[] values = {0, 1, -1, 32767, 32768, -32768, -32769, MAX, Kinds.LEAST, Kinds.LEAST + 1,
            256000000, 256000001, -256000000, -256000001, 16777217};
        CordBay bay = new CordBay();
        for (int kind = 0; kind <= 4; kind++) {
            Kinds.source(bay, kind, 0, values);
        }
        check.due("block(15)", bay.block(15), 0);
        check.dueRow(bay, 0, Kinds.GATES, 0, 1, 0, 1, 1, 0, 0, 1, 0, 0, 1, 1, 0, 0, 1);
        check.dueRow(bay, 1, Kinds.SHORTS, 0, 1, -1, 32767, 32767, -32768, -32768, 32767, -32768,
            -32768, 32767, 32767, -32768, -32768, 32767);
        double[] ints = new double[values.length];
        double[] doubles = new double[values.length];
        double[] floats = new double[values.length];
        for (int i = 0; i < values.length; i++) {
            ints[i] = values[i];
            doubles[i] = Math.max(-1e6, Math.min(1e6, values[i] / 256.0));
            floats[i] = (float) doubles[i];
        }
        doubles[8] = Kinds.NONE;
        floats[8] = Kinds.NONE;
        check.dueRow(bay, 2, Kinds.INTS, ints);
        check.dueRow(bay, 3, Kinds.FLOATS, floats);
        check.dueRow(bay, 4, Kinds.DOUBLES, doubles);
        check.due("a float that is no double", bay.sample(3, 14), 65536);
        check.due("the double itself", bay.sample(4, 14), 65536.00390625);
        int[] saturations = {0, 10, 0, 0, 0};
        for (int m = 0; m < 5; m++) {
            check.due("count(10 + " + m + ")", bay.count(10 + m), saturations[m]);
        }
    }

    private static void places(Check check) {
        CordBay bay = new CordBay();
        int m = Kinds.source(bay, Kinds.INTS, 5, 10, 11, 12);
        bay.knob(m, 1, 0);
        bay.block(3);
        check.dueRow(bay, m, Kinds.INTS, 10, 10, 10);
        bay.knob(m, 1, -1);
        bay.block(4);
        check.dueRow(bay, m, Kinds.INTS, 10, 12, 11, 10);
        bay.block(1);
        check.dueRow(bay, m, Kinds.INTS, 12);
        bay.knob(m, 1, -1000);
        bay.block(3);
        check.dueRow(bay, m, Kinds.INTS, 11, 10, 12);
        bay.knob(m, 1, 1000);
        bay.block(3);
        check.dueRow(bay, m, Kinds.INTS, 11, 12, 10);
        // The PLACE, 1, is kept when another table is told.
        Kinds.fill(bay, 6, 20, 21);
        bay.knob(m, 0, 6);
        bay.block(2);
        check.dueRow(bay, m, Kinds.INTS, 21, 21);
    }

    private static void findings(Check check) {
        CordBay bay = new CordBay();
        bay.module(Kinds.SOURCE, Kinds.INTS);
        check.dueFinding(bay, 1, 2, 0, -1);
        for (int t : new int[] {-1, 8, 1000, -1000}) {
            bay.knob(0, 0, t);
            check.dueFinding(bay, 1, 2, 0, -1);
        }
        bay.knob(0, 0, 0);
        bay.table(0, 0);
        check.dueFinding(bay, 16, 5, 0, 0);
        Kinds.fill(bay, 0, 1, 2, 3);
        bay.knob(0, 1, 2);
        check.due("block(1), the PLACE is then 2", bay.block(1), 0);
        bay.table(0, 2);
        check.dueFinding(bay, 1, 3, 0, 0);
        bay.table(0, 0);
        check.dueFinding(bay, 1, 5, 0, 0);
        bay.table(0, -1);
        check.dueFinding(bay, 1, 2, 0, -1);
        Kinds.fill(bay, 0, 1, 2, 3);
        check.due("block(1), the PLACE is still 2", bay.block(1), 0);
        check.dueRow(bay, 0, Kinds.INTS, 3);
    }
}
