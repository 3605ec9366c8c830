import java.util.Arrays;

/** Promise 8: SOURCE, MIX, DELAY, GATE, SWITCH and MEAN. */
final class EdgesOfKinds {
    private static final int MIN = Integer.MIN_VALUE;
    private static final int MAX = Integer.MAX_VALUE;

    private EdgesOfKinds() {
    }

    static void all(Sentences doc) {
        sourceTables(doc);
        sourcePlaces(doc);
        sourceRows(doc);
        mix(doc);
        delay(doc);
        fed(doc);
        gate(doc);
        switching(doc);
        mean(doc);
        meanHeld(doc);
    }

    private static void sourceTables(Sentences doc) {
        doc.test(8, "Table KNOB 0 is wanted: FINDING 2, if there is none such, or it is MISSING.", check -> {
            CordBay bay = new CordBay();
            int source = bay.module(Kinds.SOURCE, Kinds.INTS);
            check.dueFinding(bay, 1, 2, source, -1);
            for (int t = 0; t < 8; t++) {
                bay.table(t, 1);
            }
            for (int t : new int[] {-1, 8, -1000, 1000}) {
                bay.knob(source, 0, t);
                check.dueFinding(bay, 16, 2, source, -1);
            }
            for (int t : new int[] {0, 7}) {
                bay.knob(source, 0, t);
                check.due("block(16) of table " + t, bay.block(16), 0);
                bay.table(t, -1);
                check.dueFinding(bay, 16, 2, source, -1);
            }
        });
        doc.test(8, "Sample by sample: v is what stands at the PLACE: FINDING 3, if the table has no such place;", check -> {
            CordBay bay = new CordBay();
            int source = Kinds.source(bay, Kinds.INTS, 0, new int[16]);
            bay.knob(source, 1, 15);
            bay.block(1);
            bay.table(0, 15);
            check.dueFinding(bay, 1, 3, source, 0);
            check.dueFinding(bay, 16, 3, source, 0);
            Kinds.fill(bay, 0, 0, 1, 2, 3, 4, 5, 6, 7, 8, 9, 10, 11, 12, 13, 14, 15);
            check.due("block(1), the last place", bay.block(1), 0);
            check.dueRow(bay, source, Kinds.INTS, 15);
        });
    }

    private static void sourcePlaces(Sentences doc) {
        String sentence = "then the PLACE becomes what the PLACE and KNOB 1 together leave when divided by the table's length"
            + " (0 or above; FINDING 5, if the length is 0: ahead of 3).";
        doc.test(8, "SOURCE: keeps a PLACE, 0 at first.", check -> {
            CordBay bay = new CordBay();
            int source = Kinds.source(bay, Kinds.INTS, 0, 10, 11, 12);
            bay.block(2);
            check.dueRow(bay, source, Kinds.INTS, 10, 11);
            int later = Kinds.source(bay, Kinds.INTS, 0, 10, 11, 12);
            bay.block(1);
            check.dueRow(bay, source, Kinds.INTS, 12);
            check.dueRow(bay, later, Kinds.INTS, 10);
        });
        doc.test(8, sentence, check -> {
            int[] steps = {1, -1, 16, -16, 15, 17, 1000, -1000, 0, 5, -5};
            for (int length : new int[] {1, 3, 16}) {
                int[] places = new int[length];
                Arrays.setAll(places, i -> i);
                for (int step : steps) {
                    CordBay bay = new CordBay();
                    int source = Kinds.source(bay, Kinds.INTS, 0, places);
                    bay.knob(source, 1, step);
                    bay.block(16);
                    int place = 0;
                    for (int k = 0; k < 16; k++) {
                        check.due("sample " + k + " by " + step + " of " + length, bay.sample(source, k), place);
                        place = (place + step + 1000 * length) % length;
                    }
                    bay.block(1);
                    check.due("the next block", bay.sample(source, 0), place);
                }
            }
        });
        doc.test(8, sentence, check -> {
            CordBay bay = new CordBay();
            int source = Kinds.source(bay, Kinds.INTS, 0, 4, 5, 6);
            bay.table(0, 0);
            check.dueFinding(bay, 16, 5, source, 0);
            bay.table(0, 1);
            check.due("block(16) of one place", bay.block(16), 0);
            Kinds.fill(bay, 0, 4, 5, 6);
            bay.block(2);
            bay.table(0, 0);
            check.dueFinding(bay, 1, 5, source, 0);
            bay.table(0, 2);
            check.dueFinding(bay, 1, 3, source, 0);
        });
    }

    private static void dueSource(Check check, int rowKind, int[] values, double... want) {
        CordBay bay = new CordBay();
        int source = Kinds.source(bay, rowKind, 0, values);
        bay.block(values.length);
        check.dueRow(bay, source, rowKind, want);
    }

    private static void sourceRows(Sentences doc) {
        doc.test(8, "v goes into a row of the ROW KIND: GATES: 1 if v is above 0, else 0.", check ->
            dueSource(check, Kinds.GATES, new int[] {0, 1, -1, 2, MAX, MIN}, 0, 1, 0, 1, 1, 0));
        doc.test(8, "SHORTS: held.", check -> {
            int[] values = {32767, 32768, -32768, -32769, MAX, MIN};
            dueSource(check, Kinds.SHORTS, values, 32767, 32767, -32768, -32768, 32767, -32768);
        });
        doc.test(8, "INTS: v.", check ->
            dueSource(check, Kinds.INTS, new int[] {MAX, MIN, MIN + 1, 0}, MAX, MIN, MIN + 1, 0));
        doc.test(8, "FLOATS, DOUBLES: v / 256, held; but NO NUMBER, if v is -2^31.", check -> {
            int[] values = {MIN, MIN + 1, MAX, 256000000, 256000001, -256000000, -256000001, 1, 0, -1};
            for (int kind = Kinds.FLOATS; kind <= Kinds.DOUBLES; kind++) {
                dueSource(check, kind, values, Kinds.NONE, -1e6, 1e6, 1e6, 1e6, -1e6, -1e6, 0.00390625, 0, -0.00390625);
            }
            dueSource(check, Kinds.DOUBLES, new int[] {255999999, -255999999}, 999999.99609375, -999999.99609375);
        });
    }

    private static void mix(Sentences doc) {
        doc.test(8, "MIX: of the ins 0, 1, 2 those count that lead somewhere and whose cord's module gives a row, which must be"
            + " INTS (FINDING 4; in 0 first);", check -> {
            for (int kind = 0; kind <= 4; kind++) {
                for (int in = 0; in < 3; in++) {
                    CordBay bay = new CordBay();
                    int ints = Kinds.source(bay, Kinds.INTS, 0, 5);
                    int mix = bay.module(Kinds.MIX, 0);
                    bay.cord(Kinds.turn(bay, ints, kind), mix, in);
                    bay.cord(bay.module(Kinds.MIX, 0), mix, (in + 1) % 3);
                    if (kind == Kinds.INTS) {
                        check.due("block(1) by in " + in, bay.block(1), 0);
                        check.dueRow(bay, mix, Kinds.INTS, 5);
                    } else {
                        check.dueFinding(bay, 1, 4, mix, -1);
                    }
                }
            }
        });
        doc.test(8, "none, if there are none such.", check -> {
            CordBay bay = new CordBay();
            int mix = bay.module(Kinds.MIX, 0);
            check.due("block(1), all lead NOWHERE", bay.block(1), 0);
            check.due("row(mix, 0)", bay.row(mix, 0), -1);
            int none = bay.module(Kinds.MIX, 0);
            for (int in = 0; in < 3; in++) {
                bay.cord(none, mix, in);
            }
            check.due("block(1), none gives a row", bay.block(1), 0);
            check.due("row(mix, 0)", bay.row(mix, 0), -1);
        });
        doc.test(8, "Else INTS: the sum of their samples (in 0 first), held.", check -> {
            CordBay bay = new CordBay();
            int mix = bay.module(Kinds.MIX, 0);
            int[][] tables = {{MAX, MAX, MIN, MIN, MAX, MIN, MAX, MIN}, {0, 1, 0, -1, MAX, MIN, 1, -1},
                {0, 0, 0, 0, MAX, MIN, -1, 1}};
            for (int in = 0; in < 3; in++) {
                bay.cord(Kinds.source(bay, Kinds.INTS, in, tables[in]), mix, in);
            }
            check.due("block(8)", bay.block(8), 0);
            // The sum of all is held, not each of its steps.
            check.dueRow(bay, mix, Kinds.INTS, MAX, MAX, MIN, MIN, MAX, MIN, MAX, MIN);
            check.due("count(10)", bay.count(10), 4);
        });
        doc.test(8, "Else INTS: the sum of their samples (in 0 first), held.", check -> {
            for (int in = 0; in < 3; in++) {
                CordBay bay = new CordBay();
                int source = Kinds.source(bay, Kinds.INTS, 0, 5);
                int delay = Kinds.behind(bay, source, Kinds.DELAY);
                bay.block(2);
                int mix = bay.module(Kinds.MIX, 0);
                bay.cord(source, mix, (in + 1) % 3);
                bay.cord(delay, mix, in);
                check.dueFinding(bay, 3, 3, mix, 2);
                check.due("block(2), it is so long", bay.block(2), 0);
                check.dueRow(bay, mix, Kinds.INTS, 10, 10);
            }
        });
    }

    private static void delay(Sentences doc) {
        String sentence = "DELAY: gives, as it is, what it was fed KNOB 0 blocks ago (held to 1 .. 4), or none, if it was fed"
            + " none, or there were not so many blocks.";
        doc.test(8, sentence, check -> {
            int[] knobs = {-1000, 0, 1, 2, 3, 4, 5, 1000};
            int[] ago = {1, 1, 1, 2, 3, 4, 4, 4};
            CordBay bay = new CordBay();
            int source = Kinds.source(bay, Kinds.INTS, 0, 1, 2, 3, 4, 5, 6, 7, 8, 9, 10, 11);
            for (int knob : knobs) {
                Kinds.behind(bay, source, Kinds.DELAY, knob);
            }
            for (int block = 1; block <= 11; block++) {
                bay.block(1);
                for (int d = 0; d < knobs.length; d++) {
                    boolean given = block > ago[d];
                    check.due("row of KNOB " + knobs[d] + " in block " + block, bay.row(1 + d, 0), given ? 2 : -1);
                    check.due("sample of KNOB " + knobs[d], bay.sample(1 + d, 0), given ? block - ago[d] : 0);
                    check.due("held to 1 .. 4 is no SATURATION", bay.count(11 + d), 0);
                }
            }
        });
        doc.test(8, sentence, check -> {
            CordBay bay = new CordBay();
            int source = Kinds.source(bay, Kinds.FLOATS, 0, 256, MIN, -1);
            int delay = Kinds.behind(bay, source, Kinds.DELAY, 4);
            bay.block(16);
            bay.block(1);
            bay.back(1);
            for (int block = 2; block <= 4; block++) {
                bay.block(1);
                check.due("row(delay, 0), a block taken back is none", bay.row(delay, 0), -1);
            }
            bay.block(1);
            check.due("row(delay, 1), as long as it was", bay.row(delay, 1), 16);
            check.due("row(delay, 3)", bay.row(delay, 3), 5);
            check.due("row(delay, 0)", bay.row(delay, 0), Kinds.FLOATS);
        });
    }

    private static void fed(Sentences doc) {
        doc.test(8, "To be FED is to keep what in 0's cord's module gives (none, if in 0 leads NOWHERE, or it gives none).",
            check -> {
            CordBay bay = new CordBay();
            int source = Kinds.source(bay, Kinds.INTS, 0, 1, 2, 3, 4, 5);
            int delay = Kinds.behind(bay, source, Kinds.DELAY);
            int none = bay.module(Kinds.MIX, 0);
            bay.block(1);
            bay.cord(-1, delay, 0);
            bay.cord(source, delay, 1);
            bay.block(1);
            check.dueRow(bay, delay, Kinds.INTS, 1);
            bay.cord(none, delay, 0);
            check.due("block(1), fed by NOWHERE", bay.block(1), 0);
            check.due("row(delay, 0)", bay.row(delay, 0), -1);
            bay.cord(source, delay, 0);
            check.due("block(1), fed by one that gives none", bay.block(1), 0);
            check.due("row(delay, 0)", bay.row(delay, 0), -1);
            bay.block(1);
            check.dueRow(bay, delay, Kinds.INTS, 4);
        });
    }

    private static void gate(Sentences doc) {
        doc.test(8, "GATE: in 0, DOUBLES.", check -> {
            for (int kind = 0; kind <= 4; kind++) {
                CordBay bay = new CordBay();
                Kinds.behind(bay, Kinds.source(bay, kind, 0, 1), Kinds.GATE);
                check.due("block(1) of kind " + kind, bay.block(1), kind == Kinds.DOUBLES ? 0 : 4);
            }
        });
        doc.test(8, "Keeps UP, 0 at first.", check -> {
            CordBay bay = new CordBay();
            int source = Kinds.source(bay, Kinds.DOUBLES, 0, 0, 256, 0);
            int gate = Kinds.behind(bay, source, Kinds.GATE, 8, -8);
            bay.block(1);
            check.dueRow(bay, gate, Kinds.GATES, 0);
            bay.block(1);
            check.dueRow(bay, gate, Kinds.GATES, 1);
            bay.block(1);
            check.dueRow(bay, gate, Kinds.GATES, 1);
        });
        String sentence = "Sample by sample: UP becomes 1, if x is KNOB 0 / 8 or above; else 0, if it is KNOB 1 / 8 or below;"
            + " else it stays (for NO NUMBER, too); GATES: UP.";
        doc.test(8, sentence, check -> {
            CordBay bay = new CordBay();
            // KNOB 1 is 1/8, which is 32 of the table's units; -1 is -32.
            int source = Kinds.source(bay, Kinds.DOUBLES, 0, 31, 32, 31, MIN, -31, -32, -31, MIN, 33, -33, MAX, MIN + 1);
            int gate = Kinds.behind(bay, source, Kinds.GATE, 1, -1);
            bay.block(12);
            check.dueRow(bay, gate, Kinds.GATES, 0, 1, 1, 1, 1, 0, 0, 0, 1, 0, 1, 0);
        });
        doc.test(8, sentence, check -> {
            CordBay bay = new CordBay();
            int source = Kinds.source(bay, Kinds.DOUBLES, 0, 32000, 31999, -32000, -32001);
            int gate = Kinds.behind(bay, source, Kinds.GATE, 1000, -1000);
            bay.block(4);
            check.dueRow(bay, gate, Kinds.GATES, 1, 1, 0, 0);
            bay.knob(gate, 0, -1000);
            bay.knob(gate, 1, 1000);
            bay.block(4);
            // Where both hold, the first one counts.
            check.dueRow(bay, gate, Kinds.GATES, 1, 1, 1, 0);
        });
    }

    private static void switching(Sentences doc) {
        doc.test(8, "SWITCH: in 0, a row of any kind; in 1, GATES.", check -> {
            for (int in0 = 0; in0 <= 4; in0++) {
                for (int in1 = 0; in1 <= 4; in1++) {
                    CordBay bay = new CordBay();
                    int through = Kinds.behind(bay, Kinds.source(bay, in0, 0, 256), Kinds.SWITCH);
                    bay.cord(Kinds.source(bay, in1, 1, 256), through, 1);
                    check.due("block(1) of " + in0 + " and " + in1, bay.block(1), in1 == Kinds.GATES ? 0 : 4);
                    check.due("row(through, 0)", bay.row(through, 0), in1 == Kinds.GATES ? in0 : -1);
                }
            }
        });
        String sentence = "If the last sample (n - 1) of in 1 is 1, it gives the row of in 0 as it is, else none.";
        doc.test(8, sentence, check -> {
            CordBay bay = new CordBay();
            int source = Kinds.source(bay, Kinds.DOUBLES, 0, 1, MIN);
            int gate = Kinds.source(bay, Kinds.GATES, 1, 0, 0, 1, 1, 0);
            int through = Kinds.behind(bay, source, Kinds.SWITCH);
            bay.cord(gate, through, 1);
            bay.block(3);
            check.dueRow(bay, through, Kinds.DOUBLES, 0.00390625, Kinds.NONE, 0.00390625);
            bay.block(2);
            check.due("row(through, 0), 1 and then 0", bay.row(through, 0), -1);
            check.due("finding(0)", bay.finding(0), -1);
        });
        doc.test(8, sentence, check -> {
            CordBay bay = new CordBay();
            int gate = Kinds.source(bay, Kinds.GATES, 0, 0, 1, 0);
            int delay = Kinds.behind(bay, gate, Kinds.DELAY);
            int ones = Kinds.source(bay, Kinds.GATES, 1, 1);
            bay.block(3);
            int late = Kinds.behind(bay, delay, Kinds.SWITCH);
            bay.cord(ones, late, 1);
            int through = Kinds.behind(bay, ones, Kinds.SWITCH);
            bay.cord(delay, through, 1);
            check.due("block(2), sample 1 of a longer in 1", bay.block(2), 0);
            check.dueRow(bay, through, Kinds.GATES, 1, 1);
            check.dueRow(bay, late, Kinds.GATES, 0, 1, 0);
            bay.cord(ones, through, 1);
            check.due("block(16), a shorter in 0", bay.block(16), 0);
            check.dueRow(bay, late, Kinds.GATES, 0, 1);
        });
    }

    private static void mean(Sentences doc) {
        doc.test(8, "MEAN: in 0, INTS.", check -> {
            for (int kind = 0; kind <= 4; kind++) {
                CordBay bay = new CordBay();
                Kinds.behind(bay, Kinds.source(bay, kind, 0, 1), Kinds.MEAN, 1);
                check.due("block(1) of kind " + kind, bay.block(1), kind == Kinds.INTS ? 0 : 4);
            }
        });
        doc.test(8, "FINDING 5, if these are 0.", check -> {
            CordBay bay = new CordBay();
            int mean = Kinds.behind(bay, Kinds.source(bay, Kinds.INTS, 0, 1), Kinds.MEAN);
            check.dueFinding(bay, 1, 5, mean, 0);
            bay.knob(mean, 0, -15);
            check.dueFinding(bay, 16, 5, mean, 15);
            check.due("block(15), it does not come to 0", bay.block(15), 0);
            bay.knob(mean, 0, -16);
            check.due("block(16), it does not come to 0", bay.block(16), 0);
            bay.knob(mean, 0, 1);
            check.due("block(16), it is above 0", bay.block(16), 0);
        });
    }

    private static void dueMean(Check check, int knob, int saturations, int[] values, double... want) {
        CordBay bay = new CordBay();
        int mean = Kinds.behind(bay, Kinds.source(bay, Kinds.INTS, 0, values), Kinds.MEAN, knob);
        check.due("block", bay.block(values.length), 0);
        check.dueRow(bay, mean, Kinds.INTS, want);
        check.due("SATURATIONS", bay.count(10 + mean), saturations);
    }

    private static void meanHeld(Sentences doc) {
        doc.test(8, "At sample k the sum of the samples 0 to k, divided by k and KNOB 0 together, exactly, cut off towards 0,"
            + " held to 32 bits;", check -> {
            dueMean(check, 2, 0, new int[] {7, -7, -7, 7, 1}, 3, 0, -1, 0, 0);
            dueMean(check, -6, 0, new int[] {7, 4, -22}, -1, -2, 2);
            dueMean(check, 1000, 0, new int[] {999, 1, 1, -1001}, 0, 0, 0, 0);
            dueMean(check, 1, 0, new int[] {MAX, MAX, MAX}, MAX, MAX, MAX);
            dueMean(check, 1, 0, new int[] {MIN, MIN, MIN}, MIN, MIN, MIN);
            dueMean(check, -1, 1, new int[] {MIN}, MAX);
            dueMean(check, -1, 0, new int[] {MIN + 1}, MAX);
            dueMean(check, -1, 0, new int[] {MAX}, -MAX);
            dueMean(check, -2, 1, new int[] {MAX, 2}, -1073741823, MIN);
            dueMean(check, -2, 0, new int[] {MAX, 1}, -1073741823, MIN);
            int[] most = new int[16];
            Arrays.fill(most, MAX);
            double[] want = new double[16];
            int saturations = 0;
            for (int k = 0; k < 16; k++) {
                long sum = (k + 1) * (long) MAX / (k - 16);
                want[k] = Math.max(MIN, sum);
                saturations += sum < MIN ? 1 : 0;
            }
            dueMean(check, -16, saturations, most, want);
        });
    }
}
