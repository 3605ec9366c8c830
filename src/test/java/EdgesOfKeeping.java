/** Promises 9 to 13: what is taken back, presets and takes. */
final class EdgesOfKeeping {
    private static final int MIN = Integer.MIN_VALUE;
    private static final int MAX = Integer.MAX_VALUE;
    private static final int[] NO_NUMBERS_OF_EIGHT = {-1, 8, MIN, MAX};

    private EdgesOfKeeping() {
    }

    static void all(Sentences doc) {
        takenBack(doc);
        madeSince(doc);
        staying(doc);
        backAnswers(doc);
        backRefused(doc);
        keep(doc);
        recall(doc);
        take(doc);
        takeRefused(doc);
        equal(doc);
        equalRefused(doc);
    }

    /** Blocks are numbered by the row of module 0: block 1 gives 1, and so on to 15. */
    private static CordBay numbered(int blocks) {
        CordBay bay = new CordBay();
        Kinds.source(bay, Kinds.INTS, 0, 1, 2, 3, 4, 5, 6, 7, 8, 9, 10, 11, 12, 13, 14, 15);
        for (int block = 0; block < blocks; block++) {
            bay.block(1);
        }
        return bay;
    }

    private static void takenBack(Sentences doc) {
        String sentence = "The latest n blocks that were DONE and not taken back are taken back: all that modules give and keep,"
            + " DELAYS were fed, SATURATIONS, and what SHAPE's KNOBS were, is as it was ahead of the first of them;";
        doc.test(9, sentence, check -> {
            for (int n = 1; n <= 8; n++) {
                Twins twins = new Twins();
                for (int block = 0; block < n; block++) {
                    twins.bay.knob(Twins.LATE, 0, 100 * block);
                    check.due("block", twins.bay.block(Twins.LENGTH), 0);
                }
                twins.bay.knob(Twins.LATE, 0, 16);
                check.due("back(" + n + ")", twins.bay.back(n), Math.min(8, 3 + n) - n);
                twins.dueRowsAlike(check);
            }
        });
        doc.test(9, sentence, check -> {
            CordBay bay = numbered(9);
            bay.module(Kinds.SHAPE, 0);
            check.due("block(1), not DONE", bay.block(1), 1);
            check.due("back(2)", bay.back(2), 6);
            check.dueRow(bay, 0, Kinds.INTS, 7);
            check.due("block(1), not DONE", bay.block(1), 1);
            check.due("back(1)", bay.back(1), 5);
            check.dueRow(bay, 0, Kinds.INTS, 6);
            check.due("back(5)", bay.back(5), 0);
            check.dueRow(bay, 0, Kinds.INTS, 1);
            check.due("count(2)", bay.count(2), 1);
        });
        doc.test(9, sentence, check -> {
            CordBay bay = numbered(8);
            check.due("back(8), to ahead of the first", bay.back(8), 0);
            check.due("row(0, 0)", bay.row(0, 0), -1);
            bay.block(2);
            check.dueRow(bay, 0, Kinds.INTS, 1, 2);
        });
    }

    private static void madeSince(Sentences doc) {
        doc.test(9, "modules that were made since are as when they were made.", check -> {
            for (int n : new int[] {2, 8}) {
                CordBay bay = numbered(9);
                int shorts = Kinds.source(bay, Kinds.SHORTS, 1, 40000, 3);
                int doubles = Kinds.source(bay, Kinds.DOUBLES, 2, 256);
                int late = Kinds.behind(bay, doubles, Kinds.LATE, 8, 8, 8);
                int delay = Kinds.behind(bay, 0, Kinds.DELAY);
                bay.block(1);
                bay.block(1);
                check.due("back(" + n + ")", bay.back(n), 8 - n);
                check.due("count(0), they are still there", bay.count(0), 5);
                for (int m = 1; m < 5; m++) {
                    check.due("row(" + m + ", 0)", bay.row(m, 0), -1);
                    check.due("count(10 + " + m + ")", bay.count(10 + m), 0);
                }
                bay.block(2);
                check.dueRow(bay, shorts, Kinds.SHORTS, 32767, 3);
                check.due("SATURATIONS", bay.count(10 + shorts), 1);
                check.dueRow(bay, late, Kinds.DOUBLES, 0.5, 2);
                check.due("row(delay, 0)", bay.row(delay, 0), -1);
            }
        });
        doc.test(9, "modules that were made since are as when they were made.", check -> {
            CordBay bay = numbered(4);
            int shorts = Kinds.source(bay, Kinds.SHORTS, 1, 40000, 3);
            check.due("back(1), made since, with no block", bay.back(1), 3);
            check.due("row(shorts, 0)", bay.row(shorts, 0), -1);
            bay.block(1);
            bay.block(1);
            check.due("back(1)", bay.back(1), 4);
            check.dueRow(bay, shorts, Kinds.SHORTS, 32767);
            check.due("SATURATIONS", bay.count(10 + shorts), 1);
        });
    }

    private static void staying(Sentences doc) {
        doc.test(9, "(KNOBS, cords, tables, presets, takes stay.)", check -> {
            CordBay bay = numbered(2);
            int turn = Kinds.turn(bay, 0, Kinds.SHORTS);
            bay.block(1);
            bay.knob(0, 1, 2);
            bay.keep(7);
            bay.cord(0, turn, 1);
            bay.cord(-1, turn, 0);
            bay.write(0, 2, 99);
            bay.table(5, 1);
            bay.take(0);
            check.due("back(2)", bay.back(2), 1);
            check.due("knob(0, 1, 1)", bay.knob(0, 1, 1), 2);
            check.due("recall(7)", bay.recall(7), 2);
            check.due("from(turn, 0)", bay.from(turn, 0), -1);
            check.due("from(turn, 1)", bay.from(turn, 1), 0);
            check.due("count(1)", bay.count(1), 1);
            check.due("write(5, 0, 1)", bay.write(5, 0, 1), 1);
            check.due("equal(1, 1)", bay.equal(1, 1), 1);
            check.due("take(0), no number twice", bay.take(0), 2);
            check.due("equal(1, 2)", bay.equal(1, 2), 0);
            bay.cord(0, turn, 0);
            bay.block(3);
            check.dueRow(bay, 0, Kinds.INTS, 2, 4, 6);
            bay.knob(0, 1, 13);
            bay.block(1);
            bay.block(1);
            check.dueRow(bay, 0, Kinds.INTS, 6);
        });
    }

    private static void backAnswers(Sentences doc) {
        doc.test(9, "Answers how many can still be taken back.", check -> {
            for (int blocks = 1; blocks <= 30; blocks++) {
                for (int n = 1; n <= Math.min(8, blocks); n++) {
                    CordBay bay = numbered(blocks);
                    check.due("back(" + n + ") of " + blocks, bay.back(n), Math.min(8, blocks) - n);
                    int latest = blocks == n ? 0 : (blocks - n - 1) % 15 + 1;
                    check.due("sample(0, 0), the block that is now the latest", bay.sample(0, 0), latest);
                    check.due("count(3)", bay.count(3), Math.min(8, blocks) - n);
                    check.due("count(2)", bay.count(2), blocks - n);
                }
            }
        });
    }

    private static void backRefused(Sentences doc) {
        String sentence = "-1: n is not 1 .. 8, or not so many can be: only the latest 8 blocks that were DONE can.";
        doc.test(9, sentence, check -> {
            Twins twins = new Twins();
            for (int n : new int[] {0, -1, 9, MIN, MAX, 4, 8}) {
                check.due("back(" + n + ") of three", twins.bay.back(n), -1);
            }
            twins.dueAlike(check);
            check.due("back(1) of no blocks", new CordBay().back(1), -1);
        });
        doc.test(9, sentence, check -> {
            check.due("back(8) of seven", numbered(7).back(8), -1);
            check.due("back(8) of eight", numbered(8).back(8), 0);
            CordBay bay = numbered(12);
            check.due("back(9) of twelve", bay.back(9), -1);
            check.dueRow(bay, 0, Kinds.INTS, 12);
            check.due("back(8) of twelve", bay.back(8), 0);
            check.dueRow(bay, 0, Kinds.INTS, 4);
            check.due("back(1), four are DONE, but too long ago", bay.back(1), -1);
            check.due("count(2)", bay.count(2), 4);
            check.dueRow(bay, 0, Kinds.INTS, 4);
            bay.block(1);
            check.due("back(2)", bay.back(2), -1);
            check.due("back(1), the block since", bay.back(1), 0);
            check.dueRow(bay, 0, Kinds.INTS, 4);
        });
    }

    private static void keep(Sentences doc) {
        doc.test(10, "Preset p keeps the KNOBS of all modules that there are. Answers how many modules.", check -> {
            CordBay bay = new CordBay();
            check.due("keep(0) of no modules", bay.keep(0), 0);
            for (int m = 0; m < 24; m++) {
                bay.module(Kinds.SHAPE, 0);
                check.due("keep(7)", bay.keep(7), m + 1);
            }
            bay.knob(0, 0, 1000);
            bay.knob(23, 2, -1000);
            check.due("keep(7), instead of what it kept", bay.keep(7), 24);
            bay.knob(0, 0, 1);
            bay.knob(23, 2, 1);
            check.due("recall(7)", bay.recall(7), 24);
            check.due("knob(0, 0, 5)", bay.knob(0, 0, 5), 1000);
            check.due("knob(23, 2, 5)", bay.knob(23, 2, 5), -1000);
            check.due("recall(0), it kept no modules", bay.recall(0), 0);
            check.due("knob(0, 0, 5)", bay.knob(0, 0, 5), 5);
        });
        doc.test(10, "-1: p is not 0 .. 7.", check -> {
            Twins twins = new Twins();
            for (int p : NO_NUMBERS_OF_EIGHT) {
                check.due("keep(" + p + ")", twins.bay.keep(p), -1);
            }
            twins.dueAlike(check);
            check.due("keep(0)", twins.bay.keep(0), Twins.BEYOND);
            check.due("keep(7)", twins.bay.keep(7), Twins.BEYOND);
        });
    }

    private static void recall(Sentences doc) {
        doc.test(11, "The KNOBS of all modules that preset p keeps become those. Answers how many modules.", check -> {
            CordBay bay = new CordBay();
            bay.module(Kinds.SHAPE, 0);
            bay.knob(0, 0, -1000);
            bay.knob(0, 2, 1000);
            bay.keep(0);
            bay.module(Kinds.SHAPE, 0);
            for (int k = 0; k < 3; k++) {
                bay.knob(0, k, 1);
                bay.knob(1, k, 2);
            }
            check.due("recall(0)", bay.recall(0), 1);
            int[][] want = {{-1000, 0, 1000}, {2, 2, 2}};
            for (int m = 0; m < 2; m++) {
                for (int k = 0; k < 3; k++) {
                    check.due("knob " + k + " of " + m, bay.knob(m, k, 7), want[m][k]);
                }
            }
            check.due("recall(0), what it keeps is not turned", bay.recall(0), 1);
            check.due("knob(0, 0, 0)", bay.knob(0, 0, 0), -1000);
        });
        doc.test(11, "-1: p is not 0 .. 7;", check -> {
            Twins twins = new Twins();
            for (int p : NO_NUMBERS_OF_EIGHT) {
                check.due("recall(" + p + ")", twins.bay.recall(p), -1);
            }
            twins.dueAlike(check);
            twins.bay.keep(7);
            check.due("recall(0)", twins.bay.recall(0), Twins.BEYOND);
            check.due("recall(7)", twins.bay.recall(7), Twins.BEYOND);
        });
        doc.test(11, "-2: it keeps nothing yet.", check -> {
            Twins twins = new Twins();
            for (int p : new int[] {1, 2, 4, 5, 6, 7}) {
                check.due("recall(" + p + ")", twins.bay.recall(p), -2);
            }
            twins.dueAlike(check);
            CordBay bay = new CordBay();
            for (int p = 0; p < 8; p++) {
                check.due("recall(" + p + ")", bay.recall(p), -2);
            }
            bay.keep(6);
            check.due("recall(7), another one keeps something", bay.recall(7), -2);
            bay.keep(7);
            check.due("recall(7)", bay.recall(7), 0);
        });
    }

    private static void take(Sentences doc) {
        doc.test(12, "A take keeps the row that module m gives. Answers its number: one more than that of the latest take of this"
            + " bay (1 for the first; none is given twice).", check -> {
            CordBay other = numbered(1);
            check.due("take(0) of another bay", other.take(0), 1);
            CordBay bay = numbered(1);
            check.due("take(0), the first", bay.take(0), 1);
            bay.block(1);
            check.due("take(0)", bay.take(0), 2);
            check.due("take(7), refused", bay.take(7), -1);
            bay.back(1);
            check.due("take(0), the row of block 1 again", bay.take(0), 3);
            check.due("equal(1, 3)", bay.equal(1, 3), 1);
            check.due("equal(2, 3)", bay.equal(2, 3), 0);
            bay.back(1);
            check.due("equal(1, 3), the row is taken back", bay.equal(1, 3), 1);
        });
    }

    private static void takeRefused(Sentences doc) {
        doc.test(12, "-1: there is no such module;", check -> {
            Twins twins = new Twins();
            for (int m : new int[] {Twins.BEYOND, -1, 24, MIN, MAX}) {
                check.due("take(" + m + ")", twins.bay.take(m), -1);
            }
            twins.dueAlike(check);
            check.due("take(0) of no modules", new CordBay().take(0), -1);
            CordBay full = numbered(0);
            for (int m = 1; m < 24; m++) {
                Kinds.turn(full, 0, Kinds.INTS);
            }
            full.block(1);
            check.due("take(23)", full.take(23), 1);
            check.due("take(24)", full.take(24), -1);
        });
        doc.test(12, "-2: it gives no row;", check -> {
            Twins twins = new Twins();
            check.due("row(SILENT, 0)", twins.bay.row(Twins.SILENT, 0), -1);
            check.due("take(SILENT)", twins.bay.take(Twins.SILENT), -2);
            twins.dueAlike(check);
            CordBay bay = numbered(0);
            check.due("take(0) ahead of a block", bay.take(0), -2);
            bay.block(1);
            bay.back(1);
            check.due("take(0), taken back", bay.take(0), -2);
            bay.block(1);
            check.due("take(0)", bay.take(0), 1);
        });
        doc.test(12, "-3: this bay has 40 takes.", check -> {
            CordBay bay = numbered(1);
            int none = bay.module(Kinds.MIX, 0);
            for (int t = 1; t <= 40; t++) {
                check.due("take(0)", bay.take(0), t);
            }
            bay.block(1);
            check.due("take(0), the 41st", bay.take(0), -3);
            check.due("take(none) of a full bay", bay.take(none), -2);
            check.due("take(2) of a full bay", bay.take(2), -1);
            check.due("count(4)", bay.count(4), 40);
            check.due("equal(1, 40)", bay.equal(1, 40), 1);
            check.due("equal(1, 41)", bay.equal(1, 41), -1);
            check.due("take(0) of another bay", numbered(1).take(0), 1);
        });
    }

    /** What equal answers of two rows of a kind, whichever of them comes first. */
    private static int compared(int kind, int[] one, int[] two) {
        CordBay bay = new CordBay();
        int first = Kinds.source(bay, kind, 0, one);
        bay.block(one.length);
        bay.take(first);
        int second = Kinds.source(bay, kind, 1, two);
        bay.block(two.length);
        bay.take(second);
        return bay.equal(1, 2) == bay.equal(2, 1) ? bay.equal(1, 2) : -9;
    }

    private static void equal(Sentences doc) {
        String sentence = "1 if the takes t and u of this bay are of one kind, as long as each other, and equal bit for bit (each"
            + " NO NUMBER is equal to each), else 0;";
        doc.test(13, sentence, check -> {
            for (int kind = 0; kind <= 4; kind++) {
                check.due("alike", compared(kind, new int[] {1, 0, 5}, new int[] {1, 0, 5}), 1);
                check.due("one is longer", compared(kind, new int[] {0, 0}, new int[] {0, 0, 0}), 0);
                check.due("first sample", compared(kind, new int[] {0, 1, 1}, new int[] {1, 1, 1}), 0);
                check.due("last sample", compared(kind, new int[16], new int[] {0, 0, 0, 0, 0, 0, 0, 0, 0, 0, 0, 0, 0, 0, 0,
                    1}), 0);
                int[] less = {MIN, 0};
                check.due("NO NUMBER and each other", compared(kind, less, less), 1);
                check.due("NO NUMBER and 0", compared(kind, less, new int[] {0, 0}), kind == Kinds.GATES ? 1 : 0);
                check.due("NO NUMBER elsewhere", compared(kind, less, new int[] {0, MIN}), kind == Kinds.GATES ? 1 : 0);
                check.due("the least number", compared(kind, less, new int[] {MIN + 1, 0}),
                    kind == Kinds.GATES || kind == Kinds.SHORTS ? 1 : 0);
                check.due("held alike", compared(kind, new int[] {MAX}, new int[] {MAX - 1}), kind == Kinds.INTS ? 0 : 1);
                check.due("one unit", compared(kind, new int[] {33554432}, new int[] {33554433}),
                    kind == Kinds.INTS || kind == Kinds.DOUBLES ? 0 : 1);
            }
        });
        doc.test(13, sentence, check -> {
            CordBay bay = new CordBay();
            for (int kind = 0; kind <= 4; kind++) {
                Kinds.source(bay, kind, 0, 0);
            }
            bay.block(1);
            for (int m = 0; m < 5; m++) {
                bay.take(m);
            }
            for (int t = 1; t <= 5; t++) {
                for (int u = 1; u <= 5; u++) {
                    check.due("equal(" + t + ", " + u + ") of rows of 0", bay.equal(t, u), t == u ? 1 : 0);
                }
            }
        });
        doc.test(13, sentence, check -> {
            CordBay bay = new CordBay();
            int source = Kinds.source(bay, Kinds.DOUBLES, 0, 0, MIN);
            int plus = Kinds.behind(bay, source, Kinds.SHAPE, 8);
            int minus = Kinds.behind(bay, source, Kinds.SHAPE, -8);
            int also = Kinds.behind(bay, source, Kinds.SHAPE, -16);
            for (int m : new int[] {plus, minus, also}) {
                Kinds.turn(bay, m, Kinds.FLOATS);
            }
            bay.block(2);
            for (int m = 1; m <= 6; m++) {
                bay.take(m);
            }
            for (int floats : new int[] {0, 3}) {
                check.due("equal of 0 and -0", bay.equal(1 + floats, 2 + floats), 0);
                check.due("equal of -0 and 0", bay.equal(2 + floats, 1 + floats), 0);
                check.due("equal of -0 and -0", bay.equal(2 + floats, 3 + floats), 1);
            }
        });
    }

    private static void equalRefused(Sentences doc) {
        doc.test(13, "-1 if one of them is none of this bay's.", check -> {
            CordBay bay = numbered(1);
            check.due("equal(1, 1) of no takes", bay.equal(1, 1), -1);
            check.due("equal(0, 0) of no takes", bay.equal(0, 0), -1);
            for (int t = 1; t <= 40; t++) {
                check.due("equal(1, " + t + "), not yet", bay.equal(1, t), -1);
                bay.take(0);
                check.due("equal(1, " + t + ")", bay.equal(1, t), 1);
            }
            bay.take(0);
            for (int t : new int[] {0, 41, -1, MIN, MAX}) {
                check.due("equal(" + t + ", 1)", bay.equal(t, 1), -1);
                check.due("equal(40, " + t + ")", bay.equal(40, t), -1);
                check.due("equal(" + t + ", " + t + ")", bay.equal(t, t), -1);
            }
        });
    }
}
