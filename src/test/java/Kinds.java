/** The document's numbers by name, and short ways to set up a bay. */
final class Kinds {
    static final int SOURCE = 0, SHAPE = 1, FILTER = 2, SLOW = 3, LATE = 4, MIX = 5, DELAY = 6,
            GATE = 7, TURN = 8, SWITCH = 9, MEAN = 10;
    static final int GATES = 0, SHORTS = 1, INTS = 2, FLOATS = 3, DOUBLES = 4;
    static final int LEAST = Integer.MIN_VALUE;
    static final double NONE = Double.NaN;

    private Kinds() {
    }

    static void fill(CordBay bay, int t, int... values) {
        bay.table(t, values.length);
        for (int i = 0; i < values.length; i++) {
            bay.write(t, i, values[i]);
        }
    }

    /** A SOURCE of the row kind that goes through table t place by place. */
    static int source(CordBay bay, int rowKind, int t, int... values) {
        fill(bay, t, values);
        int m = bay.module(SOURCE, rowKind);
        bay.knob(m, 0, t);
        bay.knob(m, 1, 1);
        return m;
    }

    /** A module with in 0 from o and three knobs. */
    static int behind(CordBay bay, int o, int kind, int... knobs) {
        int m = bay.module(kind, GATES);
        bay.cord(o, m, 0);
        for (int k = 0; k < knobs.length; k++) {
            bay.knob(m, k, knobs[k]);
        }
        return m;
    }

    static int turn(CordBay bay, int o, int rowKind) {
        int m = bay.module(TURN, rowKind);
        bay.cord(o, m, 0);
        return m;
    }
}
