/** Promise 8: a block as a whole, numbers that are held, and FINDINGS. */
final class EdgesOfBlocks {
    private static final int MIN = Integer.MIN_VALUE;
    private static final int MAX = Integer.MAX_VALUE;
    private static final int[] DOUBLES_WANTED = {Kinds.SHAPE, Kinds.FILTER, Kinds.SLOW, Kinds.LATE, Kinds.GATE};

    private EdgesOfBlocks() {
    }

    static void all(Sentences doc) {
        lengths(doc);
        refusedBlock(doc);
        ranges(doc);
        rounding(doc);
        ins(doc);
        acting(doc);
        findings(doc);
        firstFinding(doc);
        failedBlock(doc);
    }

    private static void lengths(Sentences doc) {
        doc.test(8, "ROWS of samples are 1 to 16 long:", check -> {
            CordBay bay = new CordBay();
            int source = Kinds.source(bay, Kinds.INTS, 0, 7);
            for (int n : new int[] {1, 16}) {
                check.due("block(" + n + ")", bay.block(n), 0);
                check.due("row(source, 1)", bay.row(source, 1), n);
                check.due("the last sample", bay.sample(source, n - 1), 7);
                check.due("one more", bay.sample(source, n), 0);
            }
            for (int n : new int[] {0, 17}) {
                check.due("block(" + n + ")", bay.block(n), -1);
                check.due("row(source, 1)", bay.row(source, 1), 16);
            }
        });
        doc.test(8, "A module that acts gives a new row, n long, or none.", check -> {
            CordBay bay = new CordBay();
            int source = Kinds.source(bay, Kinds.INTS, 0, 7);
            int mix = Kinds.behind(bay, source, Kinds.MIX);
            bay.block(16);
            bay.block(1);
            check.dueRow(bay, source, Kinds.INTS, 7);
            check.dueRow(bay, mix, Kinds.INTS, 7);
            bay.cord(-1, mix, 0);
            bay.block(1);
            check.due("row(mix, 0), the old row is gone", bay.row(mix, 0), -1);
        });
        doc.test(8, "A module GIVES a row, or none; none at first.", check -> {
            CordBay bay = new CordBay();
            bay.table(0, 16);
            bay.block(1);
            for (int kind = 0; kind <= 10; kind++) {
                int m = bay.module(kind, Kinds.INTS);
                check.due("row(" + m + ", 0)", bay.row(m, 0), -1);
                check.due("take(" + m + ")", bay.take(m), -2);
            }
        });
    }

    private static void refusedBlock(Sentences doc) {
        doc.test(8, "-1, and nothing is done: n is not 1 .. 16.", check -> {
            Twins twins = new Twins();
            for (int n : new int[] {0, 17, -1, 32, MIN, MAX}) {
                check.due("block(" + n + ")", twins.bay.block(n), -1);
            }
            twins.dueAlike(check);
            CordBay bay = new CordBay();
            check.due("block(1)", bay.block(1), 0);
            check.due("block(16)", bay.block(16), 0);
            check.due("block(0)", bay.block(0), -1);
            check.due("block(17)", bay.block(17), -1);
            check.due("count(2)", bay.count(2), 2);
            check.due("count(3)", bay.count(3), 2);
        });
        doc.test(8, "A BLOCK of n samples. Answers 0 if it is DONE, else its FINDING.", check -> {
            CordBay bay = new CordBay();
            int source = Kinds.source(bay, Kinds.INTS, 0, 7);
            int delay = Kinds.behind(bay, source, Kinds.DELAY);
            int mean = bay.module(Kinds.MEAN, 0);
            check.due("block(2), NOWHERE", bay.block(2), 1);
            bay.cord(delay, mean, 0);
            check.due("block(2), no row", bay.block(2), 2);
            bay.cord(source, mean, 0);
            check.due("block(2), divided by 0", bay.block(2), 5);
            bay.knob(mean, 0, 1);
            check.due("block(2)", bay.block(2), 0);
            bay.cord(delay, mean, 0);
            check.due("block(3), not so long", bay.block(3), 3);
            bay.cord(Kinds.turn(bay, source, Kinds.SHORTS), mean, 0);
            check.due("block(2), not of the kind", bay.block(2), 4);
            check.due("count(2)", bay.count(2), 1);
        });
    }

    private static void ranges(Sentences doc) {
        doc.test(8, "0 GATES (0 or 1), 1 SHORTS (16 bits with sign), 2 INTS (32 bits with sign), 3 FLOATS, 4 DOUBLES"
            + " (binary floating numbers of 32, of 64 bits).", check -> {
            CordBay bay = new CordBay();
            for (int kind = 0; kind <= 4; kind++) {
                Kinds.source(bay, kind, 0, MAX, MIN, 1, 0, 25600001);
            }
            bay.block(5);
            check.dueRow(bay, 0, Kinds.GATES, 1, 0, 1, 0, 1);
            check.dueRow(bay, 1, Kinds.SHORTS, 32767, -32768, 1, 0, 32767);
            check.dueRow(bay, 2, Kinds.INTS, 2147483647, -2147483648, 1, 0, 25600001);
            check.dueRow(bay, 3, Kinds.FLOATS, 1000000, Kinds.NONE, 0.00390625, 0, 100000);
            check.dueRow(bay, 4, Kinds.DOUBLES, 1000000, Kinds.NONE, 0.00390625, 0, 100000.00390625);
        });
        doc.test(8, "A sample of FLOATS or DOUBLES is a number from -1000000 to 1000000, or NO NUMBER.", check -> {
            CordBay bay = new CordBay();
            int[] values = {256000000, 256000001, 255999999, -256000000, -256000001, -255999999, MIN};
            int doubles = Kinds.source(bay, Kinds.DOUBLES, 0, values);
            int floats = Kinds.source(bay, Kinds.FLOATS, 0, values);
            bay.block(7);
            check.dueRow(bay, doubles, Kinds.DOUBLES, 1e6, 1e6, 999999.99609375, -1e6, -1e6, -999999.99609375,
                Kinds.NONE);
            check.dueRow(bay, floats, Kinds.FLOATS, 1e6, 1e6, 1e6, -1e6, -1e6, -1e6, Kinds.NONE);
        });
        String held = "To HOLD a number is to take the nearest one of a range: of 16 bits, of 32 bits, or (of floating"
            + " ones) of -1000000 to 1000000; the first two are a SATURATION of the module at hand, if that is another"
            + " one.";
        doc.test(8, held, check -> {
            CordBay bay = new CordBay();
            int shorts = Kinds.source(bay, Kinds.SHORTS, 0, 32767, -32768, 32768, -32769);
            int doubles = Kinds.source(bay, Kinds.DOUBLES, 1, MAX, MIN + 1, 256000001, -256000001);
            int turn = Kinds.turn(bay, doubles, Kinds.SHORTS);
            int shape = Kinds.behind(bay, doubles, Kinds.SHAPE, 1000);
            int[] saturations = {0, 0, 1, 1};
            int sum = 0;
            for (int block = 0; block < 4; block++) {
                bay.block(1);
                sum += saturations[block];
                check.dueRow(bay, shorts, Kinds.SHORTS, block % 2 == 0 ? 32767 : -32768);
                check.due("SATURATIONS of 16 bits", bay.count(10 + shorts), sum);
                check.due("SATURATIONS of the module at hand", bay.count(10 + turn), block + 1);
            }
            check.due("SATURATIONS of floating ones", bay.count(10 + doubles) + bay.count(10 + shape), 0);
        });
        doc.test(8, held, check -> {
            CordBay bay = new CordBay();
            int most = Kinds.source(bay, Kinds.INTS, 0, MAX, MAX, MIN, MIN);
            int more = Kinds.source(bay, Kinds.INTS, 1, 0, 1, 0, -1);
            int mix = Kinds.behind(bay, most, Kinds.MIX);
            bay.cord(more, mix, 1);
            int[] saturations = {0, 1, 1, 2};
            for (int block = 0; block < 4; block++) {
                bay.block(1);
                check.dueRow(bay, mix, Kinds.INTS, block < 2 ? MAX : MIN);
                check.due("SATURATIONS of 32 bits", bay.count(10 + mix), saturations[block]);
            }
        });
    }

    private static void rounding(Sentences doc) {
        doc.test(8, "All that is reckoned is reckoned by doubles (or by whole numbers, exactly, where that is said), each"
            + " step rounded to the nearest double, of two the one whose last bit is 0; to the nearest float where it"
            + " comes into a row of FLOATS.", check -> {
            CordBay bay = new CordBay();
            // Floats lie 4 of these units apart here, so that 1, 3 and 2 above one are near, far and between two.
            int source = Kinds.source(bay, Kinds.FLOATS, 0, 33554433, 33554435, 33554434, 33554438, -33554438, 16777217);
            int doubles = Kinds.source(bay, Kinds.DOUBLES, 1, 7);
            int shape = Kinds.behind(bay, doubles, Kinds.SHAPE, 1);
            bay.block(6);
            check.dueRow(bay, source, Kinds.FLOATS, 131072, 131072.015625, 131072, 131072.03125, -131072.03125, 65536);
            double third = 1.0 / 6;
            check.due("sample(shape, 0), step by step", bay.sample(shape, 0), third / 8 * 0.02734375);
            check.due("sample(shape, 4), step by step", bay.sample(shape, 4), 5.0 / 6 / 8 * 0.02734375);
        });
    }

    private static void ins(Sentences doc) {
        doc.test(8, "(Ins that are not named below don't count when a block is done.)", check -> {
            CordBay bay = new CordBay();
            int doubles = Kinds.source(bay, Kinds.DOUBLES, 0, 256);
            int ints = Kinds.turn(bay, doubles, Kinds.INTS);
            int none = bay.module(Kinds.MIX, 0);
            for (int kind : new int[] {Kinds.SHAPE, Kinds.FILTER, Kinds.SLOW, Kinds.LATE, Kinds.GATE, Kinds.TURN}) {
                bay.cord(none, Kinds.behind(bay, doubles, kind), 1);
            }
            bay.cord(none, Kinds.behind(bay, ints, Kinds.MEAN, 1), 1);
            int delay = bay.module(Kinds.DELAY, 0);
            bay.cord(ints, delay, 1);
            bay.cord(none, doubles, 0);
            bay.cord(none, doubles, 1);
            check.due("block(1), no row at the other ins", bay.block(1), 0);
            for (int m = 3; m < 10; m++) {
                check.due("row(" + m + ", 1)", bay.row(m, 1), 1);
                bay.cord(ints, m, 1);
            }
            check.due("block(1), another kind at the other ins", bay.block(1), 0);
            check.due("row(delay, 0), in 1 does not feed", bay.row(delay, 0), -1);
        });
    }

    private static void acting(Sentences doc) {
        doc.test(8, "A BLOCK of n samples (1 .. 16): modules ACT one by one in the ORDER: first the DELAYS, the least number"
            + " first; then again and again the module with the least number of those that have not acted and each of"
            + " whose cords (of all its ins) is from one that has acted.", check -> {
            CordBay bay = new CordBay();
            for (int kind : new int[] {Kinds.MIX, Kinds.DELAY, Kinds.MIX, Kinds.MIX, Kinds.DELAY}) {
                bay.module(kind, 0);
            }
            check.dueOrder(bay, 1, 4, 0, 2, 3);
            bay.cord(3, 0, 2);
            bay.cord(0, 4, 0);
            bay.cord(4, 1, 0);
            bay.cord(1, 3, 0);
            check.dueOrder(bay, 1, 4, 2, 3, 0);
            bay.cord(0, 2, 1);
            check.dueOrder(bay, 1, 4, 3, 0, 2);
            check.due("block(1)", bay.block(1), 0);
            check.dueTrace(bay, 2, 5, 4, 1, 3, -3, -1, -4, -5, -2);
        });
        doc.test(8, "When all have acted, each DELAY is FED.", check -> {
            CordBay bay = new CordBay();
            int below = bay.module(Kinds.DELAY, 0);
            int source = Kinds.source(bay, Kinds.INTS, 0, 1, 2, 3, 4);
            int middle = Kinds.behind(bay, source, Kinds.DELAY);
            int above = Kinds.behind(bay, middle, Kinds.DELAY);
            bay.cord(middle, below, 0);
            int itself = bay.module(Kinds.DELAY, 0);
            bay.cord(itself, itself, 0);
            for (int block = 1; block <= 4; block++) {
                check.due("block(1)", bay.block(1), 0);
                check.due("behind the SOURCE", bay.sample(middle, 0), block - 1);
                check.due("behind a DELAY with a greater number", bay.sample(below, 0), Math.max(0, block - 2));
                check.due("behind a DELAY with a lesser number", bay.sample(above, 0), Math.max(0, block - 2));
                check.due("behind itself", bay.row(itself, 0), -1);
            }
        });
    }

    /** Three modules: a source, a DELAY behind it with a row two samples long, and one that gives none. */
    private static CordBay twoLong(int rowKind) {
        CordBay bay = new CordBay();
        Kinds.behind(bay, Kinds.source(bay, rowKind, 0, 1), Kinds.DELAY);
        bay.module(Kinds.MIX, 0);
        bay.block(2);
        return bay;
    }

    private static void dueAllOfIn0(Check check, int kind, int wanted) {
        CordBay bay = twoLong(wanted);
        int m = bay.module(kind, Kinds.INTS);
        bay.knob(m, 0, 1);
        check.dueFinding(bay, 1, 1, m, -1);
        bay.cord(2, m, 0);
        check.dueFinding(bay, 1, 2, m, -1);
        bay.cord(1, m, 0);
        check.dueFinding(bay, 3, 3, m, 2);
        check.dueFinding(bay, 16, 3, m, 2);
        check.due("block(2), it is so long", bay.block(2), 0);
        check.due("block(1), it is longer", bay.block(1), 0);
        check.due("row(m, 1)", bay.row(m, 1), 1);
        for (int rowKind = 0; rowKind <= 4; rowKind++) {
            if (rowKind != wanted) {
                bay = twoLong(rowKind);
                m = Kinds.behind(bay, 1, kind, 1);
                check.dueFinding(bay, 3, 4, m, -1);
            }
        }
    }

    private static void findings(Sentences doc) {
        String sentence = "What a module needs of an in fails with a FINDING, the first one counts: 1 the in leads NOWHERE;"
            + " 2 what its cord is from gives no row; 4 the row is not of the kind wanted; and at a sample that is wanted"
            + " 3 the row is not so long.";
        doc.test(8, sentence, check -> {
            for (int kind : DOUBLES_WANTED) {
                dueAllOfIn0(check, kind, Kinds.DOUBLES);
            }
            dueAllOfIn0(check, Kinds.MEAN, Kinds.INTS);
        });
        doc.test(8, sentence, check -> {
            for (int rowKind = 0; rowKind <= 4; rowKind++) {
                CordBay bay = twoLong(rowKind);
                int turn = bay.module(Kinds.TURN, 4 - rowKind);
                check.dueFinding(bay, 1, 1, turn, -1);
                bay.cord(2, turn, 0);
                check.dueFinding(bay, 1, 2, turn, -1);
                bay.cord(1, turn, 0);
                check.dueFinding(bay, 3, 3, turn, 2);
                check.due("block(2), it is so long", bay.block(2), 0);
            }
        });
        doc.test(8, sentence, check -> {
            CordBay bay = twoLong(Kinds.GATES);
            int through = bay.module(Kinds.SWITCH, 0);
            check.dueFinding(bay, 1, 1, through, -1);
            bay.cord(0, through, 0);
            check.dueFinding(bay, 1, 1, through, -1);
            bay.cord(2, through, 1);
            check.dueFinding(bay, 1, 2, through, -1);
            bay.cord(1, through, 1);
            check.dueFinding(bay, 3, 3, through, 2);
            check.due("block(2), it is so long", bay.block(2), 0);
            bay.cord(Kinds.turn(bay, 0, Kinds.INTS), through, 1);
            check.dueFinding(bay, 2, 4, through, -1);
        });
    }

    private static void firstFinding(Sentences doc) {
        doc.test(8, "(Kinds and rows are looked at when a module begins to act, in 0 ahead of in 1; samples one by one.)",
            check -> {
            CordBay bay = twoLong(Kinds.INTS);
            int through = bay.module(Kinds.SWITCH, 0);
            bay.cord(0, through, 1);
            check.dueFinding(bay, 3, 1, through, -1);
            bay.cord(2, through, 0);
            check.dueFinding(bay, 3, 2, through, -1);
            bay.cord(-1, through, 1);
            check.dueFinding(bay, 3, 2, through, -1);
        });
        doc.test(8, "(Kinds and rows are looked at when a module begins to act, in 0 ahead of in 1; samples one by one.)",
            check -> {
            CordBay bay = twoLong(Kinds.INTS);
            int mix = Kinds.behind(bay, 1, Kinds.MIX);
            check.dueFinding(bay, 3, 3, mix, 2);
            bay.cord(Kinds.turn(bay, 0, Kinds.SHORTS), mix, 2);
            check.dueFinding(bay, 3, 4, mix, -1);
            bay.cord(-1, mix, 2);
            bay.cord(-1, mix, 0);
            int mean = Kinds.behind(bay, 1, Kinds.MEAN, -1);
            check.dueFinding(bay, 4, 5, mean, 1);
            bay.knob(mean, 0, -3);
            check.dueFinding(bay, 4, 3, mean, 2);
        });
    }

    private static void failedBlock(Sentences doc) {
        String sentence = "A block with a FINDING is not DONE: rows, PLACES, KEPT, OLD, UP, what DELAYS were fed,"
            + " SATURATIONS are as before it.";
        doc.test(8, sentence, check -> {
            Twins twins = new Twins();
            twins.bay.knob(Twins.MEAN, 0, -3);
            check.dueFinding(twins.bay, 4, 5, Twins.MEAN, 3);
            check.due("trace(8), all have begun to act", twins.bay.trace(8), Twins.MEAN + 1);
            twins.bay.knob(Twins.MEAN, 0, 1);
            twins.dueAlikeFromHere(check);
        });
        doc.test(8, sentence, check -> {
            Twins twins = new Twins();
            for (int i = 0; i < 10; i++) {
                check.dueFinding(twins.bay, 16, 3, Twins.MIX, 4);
            }
            twins.dueAlikeFromHere(check);
        });
        doc.test(8, sentence, check -> {
            CordBay bay = new CordBay();
            int lone = bay.module(Kinds.SHAPE, 0);
            check.due("block(1), the very first", bay.block(1), 1);
            check.due("count(2)", bay.count(2), 0);
            check.due("count(3)", bay.count(3), 0);
            check.due("back(1)", bay.back(1), -1);
            check.due("row(lone, 0)", bay.row(lone, 0), -1);
        });
    }
}
