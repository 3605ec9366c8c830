/** Promise 8: SHAPE, FILTER, SLOW, LATE and TURN. */
final class EdgesOfShapes {
    private static final int MIN = Integer.MIN_VALUE;
    private static final int MAX = Integer.MAX_VALUE;
    /** A table's v for the sample 1000000. */
    private static final int TOP = 256000000;

    private EdgesOfShapes() {
    }

    static void all(Sentences doc) {
        shape(doc);
        gain(doc);
        filter(doc);
        late(doc);
        noNumber(doc);
        turnOfWhole(doc);
        turnOfFloating(doc);
    }

    private static void shape(Sentences doc) {
        doc.test(8, "SHAPE: in 0, DOUBLES.", check -> {
            for (int shaping = Kinds.SHAPE; shaping <= Kinds.LATE; shaping++) {
                for (int kind = 0; kind <= 4; kind++) {
                    CordBay bay = new CordBay();
                    int shape = Kinds.behind(bay, Kinds.source(bay, kind, 0, 1), shaping);
                    check.due("block(1) of kind " + kind, bay.block(1), kind == Kinds.DOUBLES ? 0 : 4);
                    check.due("row(shape, 0)", bay.row(shape, 0), kind == Kinds.DOUBLES ? Kinds.DOUBLES : -1);
                }
            }
        });
        doc.test(8, "With x the sample: g * x, held;", check -> {
            CordBay bay = new CordBay();
            int source = Kinds.source(bay, Kinds.DOUBLES, 0, TOP, -TOP, TOP / 8 + 1, TOP / 8, TOP / 8 - 1, 0);
            int shape = Kinds.behind(bay, source, Kinds.SHAPE, 8);
            bay.block(6);
            bay.block(6);
            check.dueRow(bay, shape, Kinds.DOUBLES, 1e6, -1e6, 125000.00390625, 125000, 124999.99609375, 0);
            bay.knob(shape, 0, 64);
            bay.block(6);
            bay.block(6);
            check.dueRow(bay, shape, Kinds.DOUBLES, 1e6, -1e6, 1e6, 1e6, 999999.96875, 0);
            bay.knob(shape, 0, -64);
            bay.block(6);
            bay.block(6);
            check.dueRow(bay, shape, Kinds.DOUBLES, -1e6, 1e6, -1e6, -1e6, -999999.96875, 0);
            check.due("no SATURATION", bay.count(10 + shape), 0);
        });
    }

    private static void gain(Sentences doc) {
        String sentence = "g is KNOB 0 / 8 as it comes: at sample k (from 0) of n it is (o + (KNOB 0 - o) * (k + 1) / n) / 8,"
            + " o being what KNOB 0 was when the latest block was done that was not taken back (0 ahead of the first one,"
            + " or when it was made since): (KNOB 0 - o) * (k + 1) is a whole number, the rest is reckoned by doubles from"
            + " the left.";
        doc.test(8, sentence, check -> {
            CordBay bay = new CordBay();
            int source = Kinds.source(bay, Kinds.DOUBLES, 0, 256);
            int shape = Kinds.behind(bay, source, Kinds.SHAPE, 1000);
            for (int n : new int[] {1, 3, 7, 16}) {
                for (int[] way : new int[][] {{1000, -1000}, {-1000, 1000}, {-1000, -1000}, {0, 999}, {7, 8}}) {
                    bay.knob(shape, 0, way[0]);
                    bay.block(1);
                    bay.knob(shape, 0, way[1]);
                    bay.block(n);
                    double[] want = new double[n];
                    for (int k = 0; k < n; k++) {
                        want[k] = ((double) way[0] + (double) ((way[1] - way[0]) * (k + 1)) / (double) n) / 8.0;
                    }
                    check.dueRow(bay, shape, Kinds.DOUBLES, want);
                    check.due("the last sample's g is KNOB 0 / 8", bay.sample(shape, n - 1), way[1] / 8.0);
                }
            }
        });
        doc.test(8, sentence, check -> {
            CordBay bay = new CordBay();
            int source = Kinds.source(bay, Kinds.DOUBLES, 0, 256);
            int shape = Kinds.behind(bay, source, Kinds.SHAPE, 16);
            bay.block(2);
            check.dueRow(bay, shape, Kinds.DOUBLES, 1, 2);
            bay.knob(shape, 0, 32);
            bay.block(2);
            bay.back(1);
            bay.block(2);
            check.dueRow(bay, shape, Kinds.DOUBLES, 3, 4);
            bay.back(2);
            bay.block(2);
            check.dueRow(bay, shape, Kinds.DOUBLES, 2, 4);
        });
        doc.test(8, sentence, check -> {
            CordBay bay = new CordBay();
            int source = Kinds.source(bay, Kinds.DOUBLES, 0, 256);
            bay.block(2);
            int shape = Kinds.behind(bay, source, Kinds.SHAPE, 16);
            bay.knob(shape, 0, -1000);
            bay.knob(shape, 0, 16);
            bay.block(2);
            check.dueRow(bay, shape, Kinds.DOUBLES, 1, 2);
            bay.knob(source, 0, 8);
            bay.knob(shape, 0, 999);
            check.dueFinding(bay, 2, 2, source, -1);
            check.due("block(17)", bay.block(17), -1);
            bay.knob(source, 0, 0);
            bay.knob(shape, 0, 0);
            bay.block(2);
            check.dueRow(bay, shape, Kinds.DOUBLES, 1, 0);
        });
    }

    /** A FILTER's or SLOW's rows, its KNOB 0 being what it was already. */
    private static void dueFiltered(Check check, int kind, int[] knobs, int[] values, double... want) {
        CordBay bay = new CordBay();
        int source = Kinds.source(bay, Kinds.DOUBLES, 0, 0);
        int filter = Kinds.behind(bay, source, kind, knobs);
        bay.block(1);
        Kinds.fill(bay, 0, values);
        for (int block = 0; block < 2; block++) {
            bay.block(values.length / 2);
            for (int k = 0; k < values.length / 2; k++) {
                int at = block * (values.length / 2) + k;
                check.due("kind " + kind + ", sample " + at, bay.sample(filter, k), want[at]);
            }
        }
        check.due("no SATURATION", bay.count(10 + filter), 0);
    }

    private static void filter(Sentences doc) {
        doc.test(8, "FILTER (as SHAPE): keeps KEPT, 0 at first.", check ->
            dueFiltered(check, Kinds.FILTER, new int[] {8, 1000}, new int[] {256, 0}, 1, 125));
        String sentence = "y is what SHAPE makes of x; z = y + KEPT * (KNOB 1 / 8), held; KEPT becomes z; it is z.";
        doc.test(8, sentence, check -> {
            // y is held ahead of z, or the second sample were 1000000; and KEPT is z as it was held.
            int[] values = {-TOP, TOP, TOP, 0};
            dueFiltered(check, Kinds.FILTER, new int[] {1000, 8}, values, -1e6, 0, 1e6, 1e6);
            dueFiltered(check, Kinds.FILTER, new int[] {8, -1000}, values, -1e6, 1e6, -1e6, 1e6);
            dueFiltered(check, Kinds.FILTER, new int[] {8, 8}, new int[] {TOP, TOP, TOP, -256}, 1e6, 1e6, 1e6, 999999);
            dueFiltered(check, Kinds.FILTER, new int[] {8, 8}, new int[] {-TOP, -256, 256, 0}, -1e6, -1e6, -999999,
                -999999);
        });
        doc.test(8, "SLOW is as FILTER.", check -> {
            dueFiltered(check, Kinds.SLOW, new int[] {8, 1000}, new int[] {256, 0}, 1, 125);
            dueFiltered(check, Kinds.SLOW, new int[] {1000, 8, 1000}, new int[] {-TOP, TOP, TOP, 0}, -1e6, 0, 1e6, 1e6);
        });
    }

    private static void late(Sentences doc) {
        doc.test(8, "LATE (as FILTER): keeps OLD, 0 at first, too.", check ->
            dueFiltered(check, Kinds.LATE, new int[] {8, 0, 1000}, new int[] {256, 0}, 1, 125));
        doc.test(8, "z is what FILTER makes of x; it is z + OLD, held; then OLD becomes z * (KNOB 2 / 8), held.", check -> {
            // OLD is z times -125, held to 1000000 and so just taken off again.
            int[] values = {-TOP, -TOP, 256, TOP};
            dueFiltered(check, Kinds.LATE, new int[] {8, 0, -1000}, values, -1e6, 0, 1e6, 999875);
            dueFiltered(check, Kinds.LATE, new int[] {8, 0, 8}, values, -1e6, -1e6, -999999, 1e6);
            dueFiltered(check, Kinds.LATE, new int[] {8, 0, 1000}, new int[] {TOP, -TOP}, 1e6, 0);
            // KEPT is z, not what is given.
            dueFiltered(check, Kinds.LATE, new int[] {8, 8, 8}, new int[] {256, 256, 256, 0}, 1, 3, 5, 6);
        });
    }

    private static void noNumber(Sentences doc) {
        doc.test(8, "NO NUMBER gives NO NUMBER.", check -> {
            CordBay bay = new CordBay();
            int source = Kinds.source(bay, Kinds.DOUBLES, 0, MIN, 256, MIN);
            int zero = Kinds.behind(bay, source, Kinds.SHAPE, 0);
            int shape = Kinds.behind(bay, source, Kinds.SHAPE, 8);
            bay.block(3);
            check.dueRow(bay, zero, Kinds.DOUBLES, Kinds.NONE, 0, Kinds.NONE);
            check.due("isNone(shape, 2)", bay.isNone(shape, 2), true);
        });
        doc.test(8, "NO NUMBER gives NO NUMBER and leaves KEPT and OLD as they are.", check -> {
            CordBay bay = new CordBay();
            int source = Kinds.source(bay, Kinds.DOUBLES, 0, 256, MIN, MIN, 512);
            int[] filters = {Kinds.behind(bay, source, Kinds.FILTER, 8, 8), Kinds.behind(bay, source, Kinds.SLOW, 8, 8)};
            int late = Kinds.behind(bay, source, Kinds.LATE, 8, 8, 16);
            bay.block(1);
            bay.block(2);
            bay.block(1);
            for (int m : filters) {
                check.dueRow(bay, m, Kinds.DOUBLES, 3);
            }
            check.dueRow(bay, late, Kinds.DOUBLES, 5);
            bay.back(1);
            for (int m : new int[] {filters[0], filters[1], late}) {
                check.dueRow(bay, m, Kinds.DOUBLES, Kinds.NONE, Kinds.NONE);
            }
        });
    }

    private static CordBay turned(int from, int to, int... values) {
        CordBay bay = new CordBay();
        int source = Kinds.source(bay, from, 0, values);
        Kinds.turn(bay, source, to);
        bay.block(values.length);
        return bay;
    }

    private static void turnOfWhole(Sentences doc) {
        doc.test(8, "TURN: in 0, a row of any kind; gives one of the ROW KIND.", check -> {
            for (int from = 0; from <= 4; from++) {
                for (int to = 0; to <= 4; to++) {
                    CordBay bay = turned(from, to, new int[16]);
                    check.due("row(1, 0) from " + from, bay.row(1, 0), to);
                    check.due("row(1, 1) from " + from, bay.row(1, 1), 16);
                }
            }
        });
        doc.test(8, "From GATES, SHORTS, INTS v: into GATES 1 if v is above 0, else 0; into SHORTS held; into INTS v; into"
            + " FLOATS, DOUBLES v / 256, held.", check -> {
            int[] edges = {1, 0, -1, 32767, 32768, -32768, -32769, MAX, MIN};
            check.dueRow(turned(Kinds.INTS, Kinds.GATES, edges), 1, Kinds.GATES, 1, 0, 0, 1, 1, 0, 0, 1, 0);
            CordBay shorts = turned(Kinds.INTS, Kinds.SHORTS, edges);
            check.dueRow(shorts, 1, Kinds.SHORTS, 1, 0, -1, 32767, 32767, -32768, -32768, 32767, -32768);
            check.due("SATURATIONS", shorts.count(11), 4);
            CordBay ints = turned(Kinds.INTS, Kinds.INTS, edges);
            check.dueRow(ints, 1, Kinds.INTS, 1, 0, -1, 32767, 32768, -32768, -32769, MAX, MIN);
            check.due("SATURATIONS", ints.count(11), 0);
            int[] wide = {TOP, TOP + 1, -TOP, -TOP - 1, MAX, MIN, 1, -1};
            for (int kind = Kinds.FLOATS; kind <= Kinds.DOUBLES; kind++) {
                CordBay floating = turned(Kinds.INTS, kind, wide);
                // Here -2^31 is a number as each other is.
                check.dueRow(floating, 1, kind, 1e6, 1e6, -1e6, -1e6, 1e6, -1e6, 0.00390625, -0.00390625);
                check.due("SATURATIONS", floating.count(11), 0);
            }
            CordBay below = turned(Kinds.INTS, Kinds.DOUBLES, TOP - 1, 1 - TOP);
            check.dueRow(below, 1, Kinds.DOUBLES, 999999.99609375, -999999.99609375);
            check.dueRow(turned(Kinds.SHORTS, Kinds.FLOATS, 32767, MIN), 1, Kinds.FLOATS, 127.99609375, -128);
            check.dueRow(turned(Kinds.GATES, Kinds.DOUBLES, 5, 0), 1, Kinds.DOUBLES, 0.00390625, 0);
        });
    }

    /** The table's values are quartered, so that x * 256 has a part to cut off. */
    private static CordBay turnedQuarters(int to, int... values) {
        CordBay bay = new CordBay();
        int source = Kinds.source(bay, Kinds.DOUBLES, 0, values);
        int shape = Kinds.behind(bay, source, Kinds.SHAPE, 2);
        bay.block(values.length);
        Kinds.turn(bay, shape, to);
        bay.block(values.length);
        return bay;
    }

    private static void turnOfFloating(Sentences doc) {
        String sentence = "From FLOATS, DOUBLES x: into GATES 1 if x is above 0, else 0 (for NO NUMBER, too); into SHORTS, INTS"
            + " x * 256, cut off towards 0, held to 16 bits for SHORTS (NO NUMBER: 0); into FLOATS, DOUBLES x.";
        doc.test(8, sentence, check -> {
            int[] edges = {1, 0, -1, MIN, 3, -3, 4, -4};
            check.dueRow(turnedQuarters(Kinds.GATES, edges), 2, Kinds.GATES, 1, 0, 0, 0, 1, 0, 1, 0);
            check.dueRow(turnedQuarters(Kinds.SHORTS, edges), 2, Kinds.SHORTS, 0, 0, 0, 0, 0, 0, 1, -1);
            check.dueRow(turnedQuarters(Kinds.INTS, edges), 2, Kinds.INTS, 0, 0, 0, 0, 0, 0, 1, -1);
            int[] most = {131071, 131072, -131075, -131076, TOP, -TOP};
            CordBay shorts = turnedQuarters(Kinds.SHORTS, most);
            check.dueRow(shorts, 2, Kinds.SHORTS, 32767, 32767, -32768, -32768, 32767, -32768);
            check.due("SATURATIONS, the part cut off is none", shorts.count(12), 4);
            CordBay ints = turnedQuarters(Kinds.INTS, most);
            check.dueRow(ints, 2, Kinds.INTS, 32767, 32768, -32768, -32769, TOP / 4, -TOP / 4);
            check.due("SATURATIONS", ints.count(12), 0);
        });
        doc.test(8, sentence, check -> {
            int[] edges = {MAX, MIN, MIN + 1, 0, 1, 33554434};
            for (int from = Kinds.FLOATS; from <= Kinds.DOUBLES; from++) {
                double last = from == Kinds.FLOATS ? 33554432 : 33554434;
                check.dueRow(turned(from, Kinds.GATES, edges), 1, Kinds.GATES, 1, 0, 0, 0, 1, 1);
                CordBay shorts = turned(from, Kinds.SHORTS, edges);
                check.dueRow(shorts, 1, Kinds.SHORTS, 32767, 0, -32768, 0, 1, 32767);
                check.due("SATURATIONS, NO NUMBER is none", shorts.count(11), 3);
                check.dueRow(turned(from, Kinds.INTS, edges), 1, Kinds.INTS, TOP, 0, -TOP, 0, 1, last);
                check.dueRow(turned(from, Kinds.FLOATS, edges), 1, Kinds.FLOATS, 1e6, Kinds.NONE, -1e6, 0, 0.00390625,
                    131072);
                check.dueRow(turned(from, Kinds.DOUBLES, edges), 1, Kinds.DOUBLES, 1e6, Kinds.NONE, -1e6, 0, 0.00390625,
                    last / 256);
            }
        });
    }
}
