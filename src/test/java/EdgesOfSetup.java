/** Promises 1 to 7: modules, cords, knobs and tables. */
final class EdgesOfSetup {
    private static final int MIN = Integer.MIN_VALUE;
    private static final int MAX = Integer.MAX_VALUE;

    private EdgesOfSetup() {
    }

    static void all(Sentences doc) {
        newObject(doc);
        module(doc);
        cord(doc);
        loops(doc);
        from(doc);
        knob(doc);
        table(doc);
        write(doc);
    }

    private static CordBay with(int count, int kind) {
        CordBay bay = new CordBay();
        for (int m = 0; m < count; m++) {
            bay.module(kind, Kinds.GATES);
        }
        return bay;
    }

    private static void newObject(Sentences doc) {
        doc.test(1, "No modules, no tables, no blocks, no takes.", check -> {
            CordBay bay = new CordBay();
            for (int what = 0; what <= 4; what++) {
                check.due("count(" + what + ")", bay.count(what), 0);
            }
            check.dueOrder(bay);
            check.dueTrace(bay);
            check.due("row(0, 0)", bay.row(0, 0), -2);
            check.due("finding(0)", bay.finding(0), -1);
            check.due("back(1)", bay.back(1), -1);
            check.due("equal(1, 1)", bay.equal(1, 1), -1);
            for (int t = 0; t < 8; t++) {
                check.due("write(" + t + ", 0, 0)", bay.write(t, 0, 0), -2);
            }
            check.due("block(16) of no modules", bay.block(16), 0);
        });
        doc.test(1, "An object is used for at most 512 calls after it has been made;", check -> {
            CordBay bay = new CordBay();
            int source = Kinds.source(bay, Kinds.INTS, 0, 5, 6, 7);
            for (int call = 8; call <= 510; call++) {
                check.due("block(1), call " + call, bay.block(1), 0);
            }
            check.due("sample, call 511", bay.sample(source, 0), 6);
            check.due("count(2), call 512", bay.count(2), 503);
        });
    }

    private static void module(Sentences doc) {
        doc.test(2, "MODULES are numbered from 0 as they are made, 24 at most.", check -> {
            CordBay bay = new CordBay();
            for (int m = 0; m < 24; m++) {
                check.due("module " + m, bay.module(m % 11, m % 5), m);
            }
            check.due("module 24", bay.module(0, 0), -2);
        });
        doc.test(2, "A new module: its number.", check -> {
            CordBay bay = new CordBay();
            check.due("module(11, 0)", bay.module(11, 0), -1);
            check.due("module(0, 0), the refused one took no number", bay.module(0, 0), 0);
            check.due("module(0, 5)", bay.module(0, 5), -1);
            check.due("module(10, 4)", bay.module(10, 4), 1);
            check.due("count(41)", bay.count(41), 10);
        });
        doc.test(2, "-1: kind is not 0 .. 10, rowKind not 0 .. 4;", check -> {
            CordBay bay = new CordBay();
            int[][] right = {{0, 0}, {10, 0}, {0, 4}, {10, 4}};
            for (int m = 0; m < right.length; m++) {
                check.due("module, a last one that is allowed", bay.module(right[m][0], right[m][1]), m);
            }
            Twins twins = new Twins();
            int[][] wrong = {{-1, 0}, {11, 0}, {0, -1}, {0, 5}, {MIN, 0}, {MAX, 0}, {0, MIN}, {0, MAX}, {-1, 5}};
            for (int[] w : wrong) {
                check.due("module(" + w[0] + ", " + w[1] + ")", twins.bay.module(w[0], w[1]), -1);
            }
            twins.dueAlike(check);
        });
        doc.test(2, "-2: there are 24.", check -> {
            CordBay bay = with(23, Kinds.MIX);
            check.due("module(5, 0), the 24th", bay.module(5, 0), 23);
            check.due("module(0, 0), the 25th", bay.module(0, 0), -2);
            check.due("module(10, 4), the 25th", bay.module(10, 4), -2);
            check.due("module(11, 0) of a full bay", bay.module(11, 0), -1);
            check.due("module(0, 5) of a full bay", bay.module(0, 5), -1);
            check.due("count(0)", bay.count(0), 24);
            check.due("count(63)", bay.count(63), Kinds.MIX);
            check.due("count(64)", bay.count(64), -1);
            check.due("order(24)", bay.order(24), -1);
            check.due("block(1)", bay.block(1), 0);
            check.due("trace(23)", bay.trace(23), 24);
            check.due("trace(24)", bay.trace(24), -24);
        });
        doc.test(2, "a ROW KIND that was told (it counts for SOURCE and TURN alone);", check -> {
            for (int told = 0; told <= 4; told++) {
                CordBay bay = new CordBay();
                int doubles = Kinds.source(bay, Kinds.DOUBLES, 0, 256);
                int ints = Kinds.turn(bay, doubles, Kinds.INTS);
                int[] kinds = {Kinds.SHAPE, Kinds.FILTER, Kinds.SLOW, Kinds.LATE, Kinds.GATE, Kinds.MIX, Kinds.MEAN,
                    Kinds.TURN};
                int[] gives = {4, 4, 4, 4, 0, 2, 2, told};
                for (int i = 0; i < kinds.length; i++) {
                    int m = bay.module(kinds[i], told);
                    bay.cord(gives[i] == 2 ? ints : doubles, m, 0);
                    bay.knob(m, 0, 1);
                }
                check.due("block(1)", bay.block(1), 0);
                for (int i = 0; i < kinds.length; i++) {
                    check.due("row kind of kind " + kinds[i] + " told " + told, bay.row(2 + i, 0), gives[i]);
                }
            }
        });
    }

    private static void cord(Sentences doc) {
        doc.test(3, "The in of module m has a cord from module o (instead of one that it had); o is -1: it leads"
            + " NOWHERE. Answers 1.", check -> {
            CordBay bay = with(3, Kinds.SHAPE);
            check.due("cord(0, 2, 0)", bay.cord(0, 2, 0), 1);
            check.due("cord(1, 2, 0)", bay.cord(1, 2, 0), 1);
            check.due("from(2, 0)", bay.from(2, 0), 1);
            check.due("count(1), the old one is gone", bay.count(1), 1);
            check.due("cord(1, 2, 0), the same again", bay.cord(1, 2, 0), 1);
            check.due("count(1)", bay.count(1), 1);
            check.due("cord(2, 0, 0), by way of the old one it were a loop", bay.cord(2, 0, 0), 1);
            check.due("cord(-1, 2, 0)", bay.cord(-1, 2, 0), 1);
            check.due("from(2, 0)", bay.from(2, 0), -1);
            check.due("count(1)", bay.count(1), 1);
            check.due("cord(-1, 2, 0), where none is", bay.cord(-1, 2, 0), 1);
        });
        doc.test(3, "-1: there is no module m, or no such in of it, or o is neither -1 nor a module;", check -> {
            CordBay bay = with(24, Kinds.MIX);
            int[][] right = {{23, 0, 0}, {23, 0, 2}, {-1, 0, 0}, {-1, 0, 2}, {0, 23, 0}, {0, 23, 2}, {-1, 23, 2}};
            for (int[] r : right) {
                check.due("cord(" + r[0] + ", " + r[1] + ", " + r[2] + ")", bay.cord(r[0], r[1], r[2]), 1);
            }
            Twins twins = new Twins();
            int beyond = Twins.BEYOND;
            int[][] wrong = {{0, beyond, 0}, {0, -1, 0}, {0, 24, 0}, {0, MIN, 0}, {0, MAX, 0}, {-1, beyond, 0}, {-1, -1, 0},
                {0, Twins.GATE, -1}, {0, Twins.GATE, 2}, {0, Twins.GATE, MIN}, {0, Twins.GATE, MAX},
                {Twins.INTS, Twins.MIX, 3}, {Twins.INTS, Twins.MIX, -1}, {-1, Twins.GATE, 2}, {-1, Twins.DELAY, 2},
                {beyond, Twins.GATE, 0}, {-2, Twins.GATE, 0}, {MIN, Twins.GATE, 0}, {MAX, Twins.GATE, 0},
                {beyond, Twins.DELAY, 0}, {-2, Twins.DELAY, 0}, {Twins.GATE, Twins.GATE, 2}};
            for (int[] w : wrong) {
                check.due("cord(" + w[0] + ", " + w[1] + ", " + w[2] + ")", twins.bay.cord(w[0], w[1], w[2]), -1);
            }
            twins.dueAlike(check);
        });
    }

    private static void loops(Sentences doc) {
        String sentence = "else, if m is no DELAY, -10 less how many modules the shortest LOOP without a DELAY has that"
            + " would be closed: m itself, and so on by cords (of all ins but this one) to o.";
        doc.test(3, sentence, check -> {
            Twins twins = new Twins();
            check.due("the shortest that there can be", twins.bay.cord(Twins.LATE, Twins.LATE, 1), -11);
            check.due("the same in that has a cord", twins.bay.cord(Twins.LATE, Twins.LATE, 0), -11);
            check.due("two modules", twins.bay.cord(Twins.GATE, Twins.LATE, 1), -12);
            check.due("by way of LATE, not of LATE and GATE", twins.bay.cord(Twins.SWITCH, Twins.DOUBLES, 0), -13);
            check.due("no DELAY is passed", twins.bay.cord(Twins.MEAN, Twins.MIX, 2), -12);
            twins.dueAlike(check);
        });
        doc.test(3, sentence, check -> {
            CordBay bay = with(24, Kinds.TURN);
            for (int m = 1; m < 24; m++) {
                check.due("cord, a chain", bay.cord(m - 1, m, m % 2), 1);
            }
            check.due("the longest that there can be", bay.cord(23, 0, 0), -34);
            check.due("one less", bay.cord(22, 0, 1), -33);
            check.due("count(1)", bay.count(1), 23);
            check.due("from(0, 0)", bay.from(0, 0), -1);
            bay.cord(0, 23, 0);
            check.due("a shorter way", bay.cord(23, 0, 0), -12);
            bay.cord(-1, 23, 0);
            check.due("it is gone again", bay.cord(23, 0, 0), -34);
            bay.cord(-1, 12, 0);
            check.due("the chain is parted", bay.cord(23, 0, 0), 1);
        });
        doc.test(3, sentence, check -> {
            CordBay bay = with(4, Kinds.MIX);
            int delay = bay.module(Kinds.DELAY, 0);
            bay.cord(0, delay, 0);
            bay.cord(delay, 3, 0);
            check.due("a loop with a DELAY", bay.cord(3, 0, 0), 1);
            bay.cord(-1, 0, 0);
            bay.cord(0, 1, 2);
            bay.cord(1, 2, 2);
            bay.cord(2, 3, 2);
            check.due("the one without a DELAY is longer", bay.cord(3, 0, 0), -14);
            check.due("m is a DELAY", bay.cord(3, delay, 1), 1);
            check.due("m is a DELAY, and o", bay.cord(delay, delay, 0), 1);
        });
        doc.test(3, "(If o is a DELAY, none is.)", check -> {
            CordBay bay = with(2, Kinds.SHAPE);
            int delay = bay.module(Kinds.DELAY, 0);
            check.due("cord(0, 1, 0)", bay.cord(0, 1, 0), 1);
            check.due("cord(1, delay, 0)", bay.cord(1, delay, 0), 1);
            check.due("cord(delay, 0, 0)", bay.cord(delay, 0, 0), 1);
            check.due("cord(delay, 1, 1)", bay.cord(delay, 1, 1), 1);
            check.due("cord(1, 0, 1), o is none", bay.cord(1, 0, 1), -12);
            check.due("count(1)", bay.count(1), 4);
        });
    }

    private static void from(Sentences doc) {
        doc.test(4, "and two INS, 0 and 1 (MIX three, 0 to 2), each of which has a CORD from a module, or leads NOWHERE,"
            + " as at first.", check -> {
            for (int kind = 0; kind <= 10; kind++) {
                CordBay bay = with(2, kind);
                int ins = kind == Kinds.MIX ? 3 : 2;
                for (int in = 0; in < ins; in++) {
                    check.due("from(1, " + in + ") of kind " + kind, bay.from(1, in), -1);
                    check.due("cord(0, 1, " + in + ") of kind " + kind, bay.cord(0, 1, in), 1);
                    check.due("from(1, " + in + ") of kind " + kind, bay.from(1, in), 0);
                }
                check.due("cord(0, 1, " + ins + ") of kind " + kind, bay.cord(0, 1, ins), -1);
                check.due("from(1, " + ins + ") of kind " + kind, bay.from(1, ins), -2);
                check.due("count(1)", bay.count(1), ins);
            }
        });
        doc.test(4, "From which module the in of module m has a cord; -1 NOWHERE; -2 there is no such module or in.",
            check -> {
            CordBay bay = with(23, Kinds.MIX);
            bay.module(Kinds.SHAPE, 0);
            bay.cord(23, 0, 2);
            bay.cord(0, 1, 0);
            check.due("from(0, 2), the last module", bay.from(0, 2), 23);
            check.due("from(1, 0), the first module", bay.from(1, 0), 0);
            check.due("from(23, 1), the last in", bay.from(23, 1), -1);
            int[][] wrong = {{24, 0}, {-1, 0}, {MIN, 0}, {MAX, 0}, {0, 3}, {0, -1}, {0, MIN}, {0, MAX}, {23, 2}};
            for (int[] w : wrong) {
                check.due("from(" + w[0] + ", " + w[1] + ")", bay.from(w[0], w[1]), -2);
            }
            check.due("from(0, 0) of no modules", new CordBay().from(0, 0), -2);
        });
    }

    private static void knob(Sentences doc) {
        doc.test(5, "Each has three KNOBS, ints from -1000 to 1000, 0 at first;", check -> {
            for (int kind = 0; kind <= 10; kind++) {
                CordBay bay = with(1, kind);
                for (int k = 0; k < 3; k++) {
                    check.due("knob " + k + " of kind " + kind, bay.knob(0, k, 1000), 0);
                    check.due("knob " + k + " of kind " + kind, bay.knob(0, k, -1000), 1000);
                    check.due("knob " + k + " of kind " + kind, bay.knob(0, k, 1), -1000);
                }
                check.due("knob 3 of kind " + kind, bay.knob(0, 3, 1), -2000);
            }
        });
        doc.test(5, "KNOB k of module m is v. Answers what it was.", check -> {
            CordBay bay = with(24, Kinds.LATE);
            check.due("knob(0, 0, 1000)", bay.knob(0, 0, 1000), 0);
            check.due("knob(23, 2, -1000)", bay.knob(23, 2, -1000), 0);
            check.due("knob(0, 0, 1000), the same again", bay.knob(0, 0, 1000), 1000);
            check.due("knob(0, 2, 3)", bay.knob(0, 2, 3), 0);
            check.due("knob(23, 0, 3)", bay.knob(23, 0, 3), 0);
            check.due("knob(23, 2, 3)", bay.knob(23, 2, 3), -1000);
        });
        doc.test(5, "-2000: there is no such module, k is not 0 .. 2, v not -1000 .. 1000.", check -> {
            Twins twins = new Twins();
            int[][] wrong = {{Twins.BEYOND, 0, 0}, {-1, 0, 0}, {24, 0, 0}, {MIN, 0, 0}, {MAX, 0, 0}, {0, -1, 0}, {0, 3, 0},
                {0, MIN, 0}, {0, MAX, 0}, {1, 0, 1001}, {1, 0, -1001}, {1, 2, MIN}, {1, 2, MAX}};
            for (int[] w : wrong) {
                String call = "knob(" + w[0] + ", " + w[1] + ", " + w[2] + ")";
                check.due(call, twins.bay.knob(w[0], w[1], w[2]), -2000);
            }
            twins.dueAlike(check);
            CordBay full = with(24, Kinds.SHAPE);
            check.due("knob(23, 2, 1000)", full.knob(23, 2, 1000), 0);
            check.due("knob(24, 2, 1000)", full.knob(24, 2, 1000), -2000);
            check.due("knob(0, 0, 0) of no modules", new CordBay().knob(0, 0, 0), -2000);
        });
    }

    private static void table(Sentences doc) {
        doc.test(6, "TABLES 0 .. 7 are rows of 0 to 16 ints, or MISSING, as at first.", check -> {
            CordBay bay = new CordBay();
            for (int t = 0; t < 8; t++) {
                check.due("write(" + t + ", 0, 1), MISSING", bay.write(t, 0, 1), -2);
                check.due("table(" + t + ", 0)", bay.table(t, 0), 1);
                check.due("write(" + t + ", 0, 1), no place", bay.write(t, 0, 1), -3);
                check.due("table(" + t + ", 16)", bay.table(t, 16), 1);
                check.due("write(" + t + ", 15, 1)", bay.write(t, 15, 1), 1);
                check.due("write(" + t + ", 16, 1)", bay.write(t, 16, 1), -3);
            }
        });
        doc.test(6, "Table t is a new one with n places, all 0; n is -1: it is MISSING. Answers 1.", check -> {
            CordBay bay = new CordBay();
            int source = Kinds.source(bay, Kinds.INTS, 7, 1, 2, 3, 4, 5, 6, 7, 8, 9, 10, 11, 12, 13, 14, 15, 16);
            int[][] ways = {{16}, {0, 16}, {-1, 16}, {1, 16}};
            for (int[] way : ways) {
                Kinds.fill(bay, 7, 1, 2, 3, 4, 5, 6, 7, 8, 9, 10, 11, 12, 13, 14, 15, 16);
                for (int n : way) {
                    check.due("table(7, " + n + ")", bay.table(7, n), 1);
                }
                check.due("block(16)", bay.block(16), 0);
                check.due("row(source, 2), all 0", bay.row(source, 2), 1);
            }
            check.due("table(7, -1)", bay.table(7, -1), 1);
            check.due("write(7, 0, 0)", bay.write(7, 0, 0), -2);
            check.due("table(7, -1), where none is", bay.table(7, -1), 1);
            check.due("block(1)", bay.block(1), 2);
        });
        doc.test(6, "-1: t is not 0 .. 7, n not -1 .. 16.", check -> {
            Twins twins = new Twins();
            int[][] wrong = {{-1, 1}, {8, 1}, {MIN, 1}, {MAX, 1}, {0, -2}, {0, 17}, {0, MIN}, {0, MAX}, {7, 17},
                {7, -2}, {8, -1}, {-1, -1}};
            for (int[] w : wrong) {
                check.due("table(" + w[0] + ", " + w[1] + ")", twins.bay.table(w[0], w[1]), -1);
            }
            twins.dueAlike(check);
            CordBay bay = new CordBay();
            int[][] right = {{0, -1}, {7, -1}, {0, 16}, {7, 16}};
            for (int[] r : right) {
                check.due("table(" + r[0] + ", " + r[1] + ")", bay.table(r[0], r[1]), 1);
            }
        });
    }

    private static void write(Sentences doc) {
        doc.test(7, "Place i of table t is v. Answers 1.", check -> {
            CordBay bay = new CordBay();
            int source = Kinds.source(bay, Kinds.INTS, 7, new int[16]);
            check.due("write(7, 0, MIN)", bay.write(7, 0, MIN), 1);
            check.due("write(7, 15, MAX)", bay.write(7, 15, MAX), 1);
            check.due("write(7, 15, MAX), the same again", bay.write(7, 15, MAX), 1);
            bay.table(0, 16);
            check.due("write(0, 1, 5), another table", bay.write(0, 1, 5), 1);
            bay.block(16);
            check.dueRow(bay, source, Kinds.INTS, MIN, 0, 0, 0, 0, 0, 0, 0, 0, 0, 0, 0, 0, 0, 0, MAX);
        });
        refusedWrites(doc, "-1: t is not 0 .. 7;", -1, new int[][] {{-1, 0}, {8, 0}, {MIN, 0}, {MAX, 0}, {8, -1}});
        refusedWrites(doc, "-2: it is MISSING;", -2, new int[][] {{2, 0}, {7, 0}, {7, -1}, {7, 16}, {2, MAX}});
        refusedWrites(doc, "-3: it has no such place.", -3, new int[][] {{0, 5}, {0, -1}, {1, 3}, {1, 15}, {1, 16},
            {0, MIN}, {0, MAX}});
    }

    /** Table 0 of the twins has five places and table 1 three; the others are MISSING. */
    private static void refusedWrites(Sentences doc, String sentence, int answer, int[][] wrong) {
        doc.test(7, sentence, check -> {
            Twins twins = new Twins();
            for (int[] w : wrong) {
                check.due("write(" + w[0] + ", " + w[1] + ", 99)", twins.bay.write(w[0], w[1], 99), answer);
            }
            twins.dueAlike(check);
            check.due("write(0, 4, 99), the last place", twins.bay.write(0, 4, 99), 1);
            check.due("write(1, 2, 99), the last place", twins.bay.write(1, 2, 99), 1);
        });
    }
}
