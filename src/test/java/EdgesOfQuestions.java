/** Promises 14 to 20: what can be asked. */
final class EdgesOfQuestions {
    private static final int MIN = Integer.MIN_VALUE;
    private static final int MAX = Integer.MAX_VALUE;

    private EdgesOfQuestions() {
    }

    static void all(Sentences doc) {
        row(doc);
        rowRefused(doc);
        sample(doc);
        isNone(doc);
        order(doc);
        trace(doc);
        finding(doc);
        count(doc);
        countRefused(doc);
        askingChangesNothing(doc);
    }

    private static void dueRowAnswers(Check check, CordBay bay, int m, int... want) {
        for (int what = 0; what < 4; what++) {
            check.due("row(" + m + ", " + what + ")", bay.row(m, what), want[what]);
        }
    }

    private static void row(Sentences doc) {
        String sentence = "Of the row that module m gives: what = 0 its kind; 1 how long it is; 2 1 if it is SILENT (all its"
            + " samples are 0 of either sign), else 0; 3 how many samples are NO NUMBER.";
        doc.test(14, sentence, check -> {
            for (int kind = 0; kind <= 4; kind++) {
                for (int n : new int[] {1, 16}) {
                    CordBay bay = new CordBay();
                    int source = Kinds.source(bay, kind, 0, new int[16]);
                    bay.block(n);
                    dueRowAnswers(check, bay, source, kind, n, 1, 0);
                    bay.back(1);
                    bay.write(0, n - 1, 1);
                    bay.block(n);
                    dueRowAnswers(check, bay, source, kind, n, 0, 0);
                }
            }
        });
        doc.test(14, sentence, check -> {
            CordBay bay = new CordBay();
            int source = Kinds.source(bay, Kinds.DOUBLES, 0, 0, MIN);
            int minus = Kinds.behind(bay, source, Kinds.SHAPE, -8);
            int floats = Kinds.turn(bay, minus, Kinds.FLOATS);
            bay.block(1);
            dueRowAnswers(check, bay, minus, Kinds.DOUBLES, 1, 1, 0);
            dueRowAnswers(check, bay, floats, Kinds.FLOATS, 1, 1, 0);
            bay.block(1);
            dueRowAnswers(check, bay, minus, Kinds.DOUBLES, 1, 0, 1);
            bay.knob(source, 1, 0);
            bay.write(0, 0, MIN);
            bay.block(16);
            dueRowAnswers(check, bay, minus, Kinds.DOUBLES, 16, 0, 16);
            dueRowAnswers(check, bay, floats, Kinds.FLOATS, 16, 0, 16);
        });
    }

    private static void rowRefused(Sentences doc) {
        doc.test(14, "-2 if there is no such module, or what; else -1 if it gives none.", check -> {
            CordBay bay = new CordBay();
            check.due("row(0, 0) of no modules", bay.row(0, 0), -2);
            for (int m = 0; m < 24; m++) {
                bay.module(Kinds.SOURCE, Kinds.INTS);
            }
            bay.table(0, 1);
            for (int given = 0; given < 2; given++) {
                for (int m : new int[] {24, -1, MIN, MAX}) {
                    check.due("row(" + m + ", 0)", bay.row(m, 0), -2);
                }
                for (int what : new int[] {-1, 4, MIN, MAX}) {
                    check.due("row(0, " + what + ")", bay.row(0, what), -2);
                }
                check.due("row(0, 0)", bay.row(0, 0), given == 0 ? -1 : Kinds.INTS);
                check.due("row(23, 3)", bay.row(23, 3), given == 0 ? -1 : 0);
                bay.block(1);
            }
        });
    }

    private static void sample(Sentences doc) {
        doc.test(15, "Sample i of the row that module m gives; 0 if there is none such, or NO NUMBER.", check -> {
            CordBay bay = new CordBay();
            check.due("sample(0, 0) of no modules", bay.sample(0, 0), 0);
            int source = Kinds.source(bay, Kinds.DOUBLES, 0, 256, MIN, 512);
            check.due("sample(source, 0) ahead of a block", bay.sample(source, 0), 0);
            bay.block(16);
            check.due("sample(source, 0)", bay.sample(source, 0), 1);
            check.due("sample(source, 1), NO NUMBER", bay.sample(source, 1), 0);
            check.due("sample(source, 15)", bay.sample(source, 15), 1);
            for (int i : new int[] {16, -1, 32, MIN, MAX}) {
                check.due("sample(source, " + i + ")", bay.sample(source, i), 0);
            }
            for (int m : new int[] {1, -1, 24, MIN, MAX}) {
                check.due("sample(" + m + ", 0)", bay.sample(m, 0), 0);
            }
            bay.write(0, 1, 7);
            bay.block(1);
            check.due("sample(source, 0)", bay.sample(source, 0), 0.02734375);
            check.due("sample(source, 1), the row is shorter now", bay.sample(source, 1), 0);
        });
    }

    private static void isNone(Sentences doc) {
        doc.test(16, "Whether it is NO NUMBER.", check -> {
            CordBay bay = new CordBay();
            check.due("isNone(0, 0) of no modules", bay.isNone(0, 0), false);
            int doubles = Kinds.source(bay, Kinds.DOUBLES, 0, MIN);
            int floats = Kinds.source(bay, Kinds.FLOATS, 1, MIN, MIN + 1, 0);
            int ints = Kinds.source(bay, Kinds.INTS, 0, MIN);
            check.due("isNone(doubles, 0) ahead of a block", bay.isNone(doubles, 0), false);
            bay.block(16);
            for (int i = 0; i < 16; i++) {
                check.due("isNone(doubles, " + i + ")", bay.isNone(doubles, i), true);
                check.due("isNone(floats, " + i + ")", bay.isNone(floats, i), i % 3 == 0);
                check.due("isNone(ints, " + i + ")", bay.isNone(ints, i), false);
            }
            // 32 more than a sample that is NO NUMBER: shifts by an int go round at 32.
            for (int i : new int[] {16, -1, 32, 33, -32, MIN, MAX}) {
                check.due("isNone(doubles, " + i + ")", bay.isNone(doubles, i), false);
            }
            for (int m : new int[] {3, -1, 24, MIN, MAX}) {
                check.due("isNone(" + m + ", 0)", bay.isNone(m, 0), false);
            }
            bay.block(1);
            check.due("isNone(doubles, 0)", bay.isNone(doubles, 0), true);
            check.due("isNone(doubles, 1), the row is shorter now", bay.isNone(doubles, 1), false);
        });
    }

    private static void order(Sentences doc) {
        doc.test(17, "The i-th module (from 0) of the ORDER as cords are now; -1 if there is none such.", check -> {
            CordBay bay = new CordBay();
            check.dueOrder(bay);
            bay.module(Kinds.MIX, 0);
            check.dueOrder(bay, 0);
            bay.block(1);
            bay.module(Kinds.MIX, 0);
            bay.module(Kinds.DELAY, 0);
            check.dueOrder(bay, 2, 0, 1);
            bay.cord(1, 0, 2);
            check.dueOrder(bay, 2, 1, 0);
            check.due("cord(0, 1, 0), refused", bay.cord(0, 1, 0), -12);
            check.dueOrder(bay, 2, 1, 0);
            bay.cord(-1, 0, 2);
            check.dueOrder(bay, 2, 0, 1);
            for (int i : new int[] {-1, 3, 24, MIN, MAX}) {
                check.due("order(" + i + ")", bay.order(i), -1);
            }
        });
        doc.test(17, "The i-th module (from 0) of the ORDER as cords are now; -1 if there is none such.", check -> {
            CordBay bay = new CordBay();
            int[] want = new int[24];
            for (int m = 0; m < 24; m++) {
                bay.module(Kinds.TURN, 0);
                want[m] = 23 - m;
            }
            for (int m = 0; m < 23; m++) {
                bay.cord(m + 1, m, m % 2);
            }
            check.dueOrder(bay, want);
        });
    }

    private static void trace(Sentences doc) {
        doc.test(18, "THE TRACE of a block, done or not: m + 1 when module m begins to act (it is OPENED), and, when all is over,"
            + " -1 - m for each that was OPENED, the one that was OPENED last first.", check -> {
            CordBay bay = new CordBay();
            int mix = bay.module(Kinds.MIX, 0);
            int source = bay.module(Kinds.SOURCE, Kinds.INTS);
            int delay = Kinds.behind(bay, mix, Kinds.DELAY);
            bay.cord(source, mix, 0);
            check.due("block(1), fails at the second", bay.block(1), 2);
            check.dueTrace(bay, delay + 1, source + 1, -1 - source, -1 - delay);
            bay.table(0, 1);
            check.due("block(1)", bay.block(1), 0);
            check.dueTrace(bay, delay + 1, source + 1, mix + 1, -1 - mix, -1 - source, -1 - delay);
            int lone = bay.module(Kinds.SHAPE, 0);
            check.due("block(1), fails at the last", bay.block(1), 1);
            check.dueTrace(bay, 3, 2, 1, lone + 1, -1 - lone, -1, -2, -3);
        });
        doc.test(18, "The i-th entry (from 0) of the TRACE of the latest block; 0 if there is none such.", check -> {
            CordBay bay = new CordBay();
            check.dueTrace(bay);
            int[] all = new int[48];
            for (int m = 0; m < 24; m++) {
                bay.module(Kinds.MIX, 0);
                all[m] = m + 1;
                all[47 - m] = -1 - m;
            }
            check.dueTrace(bay);
            bay.block(1);
            check.dueTrace(bay, all);
            for (int i : new int[] {-1, 48, MIN, MAX}) {
                check.due("trace(" + i + ")", bay.trace(i), 0);
            }
            check.due("block(0), it is none", bay.block(0), -1);
            check.due("back(1)", bay.back(1), 0);
            check.dueTrace(bay, all);
        });
        doc.test(18, "The i-th entry (from 0) of the TRACE of the latest block; 0 if there is none such.", check -> {
            CordBay bay = new CordBay();
            bay.module(Kinds.MIX, 0);
            bay.module(Kinds.SHAPE, 0);
            bay.block(1);
            check.dueTrace(bay, 1, 2, -2, -1);
            bay.cord(1, 0, 0);
            bay.block(1);
            check.dueTrace(bay, 2, -2);
            check.due("trace(3), of the block ahead of it", bay.trace(3), 0);
            check.due("trace(-1)", bay.trace(-1), 0);
        });
    }

    private static void finding(Sentences doc) {
        doc.test(19, "Of the latest block, if it had a FINDING: what = 0 that; 1 the module; 2 at which sample, -1 if at none.",
            check -> {
            CordBay bay = new CordBay();
            int source = Kinds.source(bay, Kinds.INTS, 0, 1);
            int mean = bay.module(Kinds.MEAN, 0);
            check.dueFinding(bay, 1, 1, mean, -1);
            bay.cord(source, mean, 0);
            check.dueFinding(bay, 16, 5, mean, 0);
            bay.knob(mean, 0, -15);
            check.dueFinding(bay, 16, 5, mean, 15);
            bay.table(0, -1);
            check.dueFinding(bay, 16, 2, source, -1);
            bay.table(0, 0);
            check.dueFinding(bay, 16, 5, source, 0);
            check.due("block(17), it is none", bay.block(17), -1);
            check.due("back(1), nor is this", bay.back(1), -1);
            check.due("finding(0)", bay.finding(0), 5);
        });
        doc.test(19, "-1 if it had none, or no such what.", check -> {
            CordBay bay = new CordBay();
            for (int what = -1; what <= 3; what++) {
                check.due("finding(" + what + ") ahead of a block", bay.finding(what), -1);
            }
            bay.module(Kinds.SHAPE, 0);
            bay.block(1);
            check.due("finding(1), module 0", bay.finding(1), 0);
            for (int what : new int[] {-1, 3, MIN, MAX}) {
                check.due("finding(" + what + ")", bay.finding(what), -1);
            }
            bay.cord(Kinds.source(bay, Kinds.DOUBLES, 0, 1), 0, 0);
            bay.block(1);
            for (int what = -1; what <= 3; what++) {
                check.due("finding(" + what + ") of a block that was DONE", bay.finding(what), -1);
            }
        });
    }

    private static void count(Sentences doc) {
        String sentence = "what = 0 modules; 1 cords; 2 blocks DONE (those taken back are none); 3 how many can be taken back; 4"
            + " takes; 10 + m SATURATIONS of module m; 40 + m module m's kind.";
        doc.test(20, sentence, check -> {
            CordBay bay = new CordBay();
            for (int m = 0; m < 24; m++) {
                check.due("count(0)", bay.count(0), m);
                bay.module(m < 11 ? m : Kinds.MIX, 0);
                check.due("count(40 + " + m + ")", bay.count(40 + m), m < 11 ? m : Kinds.MIX);
                check.due("count(10 + " + m + ")", bay.count(10 + m), 0);
            }
            int cords = 0;
            for (int m = 0; m < 24; m++) {
                for (int in = 0; in < 3; in++) {
                    cords += bay.cord(Kinds.DELAY, m, in) == 1 ? 1 : 0;
                    check.due("count(1)", bay.count(1), cords);
                }
            }
            check.due("count(1), all ins have one", cords, 2 * 24 + 14);
            bay.cord(-1, 23, 2);
            check.due("count(1)", bay.count(1), cords - 1);
        });
        doc.test(20, sentence, check -> {
            CordBay bay = new CordBay();
            int shorts = Kinds.source(bay, Kinds.SHORTS, 0, 32768);
            for (int block = 1; block <= 10; block++) {
                bay.block(1);
                check.due("count(2)", bay.count(2), block);
                check.due("count(3)", bay.count(3), Math.min(8, block));
                check.due("count(10)", bay.count(10), block);
            }
            bay.knob(shorts, 0, 8);
            bay.block(1);
            check.due("count(2), one was not DONE", bay.count(2), 10);
            bay.back(8);
            check.due("count(2)", bay.count(2), 2);
            check.due("count(3)", bay.count(3), 0);
            check.due("count(10)", bay.count(10), 2);
            for (int t = 1; t <= 41; t++) {
                bay.take(shorts);
                check.due("count(4)", bay.count(4), Math.min(40, t));
            }
        });
    }

    private static void countRefused(Sentences doc) {
        doc.test(20, "-1: no such what.", check -> {
            CordBay bay = new CordBay();
            for (int what : new int[] {-1, 5, 9, 10, 33, 34, 39, 40, 63, 64, MIN, MAX}) {
                check.due("count(" + what + ") of no modules", bay.count(what), -1);
            }
            bay.module(Kinds.GATE, 0);
            check.due("count(10)", bay.count(10), 0);
            check.due("count(11)", bay.count(11), -1);
            check.due("count(40)", bay.count(40), Kinds.GATE);
            check.due("count(41)", bay.count(41), -1);
            for (int m = 1; m < 24; m++) {
                bay.module(Kinds.GATE, 0);
            }
            check.due("count(33)", bay.count(33), 0);
            check.due("count(63)", bay.count(63), Kinds.GATE);
            for (int what : new int[] {-1, 5, 9, 34, 39, 64, MIN, MAX}) {
                check.due("count(" + what + ") of a full bay", bay.count(what), -1);
            }
        });
    }

    private static void askingChangesNothing(Sentences doc) {
        doc.test(20, "Ahead of the calls `row`, `sample`, `isNone`, `order`, `trace`, `finding`, `count` the interface says: ----"
            + " questions.", check -> {
            Twins twins = new Twins();
            CordBay bay = twins.bay;
            for (int i : new int[] {-1, 0, 3, 10, 40, MIN, MAX}) {
                bay.row(i, i);
                bay.row(0, i);
                bay.sample(i, i);
                bay.sample(0, i);
                bay.isNone(i, i);
                bay.order(i);
                bay.trace(i);
                bay.finding(i);
                bay.count(i);
            }
            twins.dueAlike(check);
        });
    }
}
