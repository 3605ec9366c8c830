public final class Promise09BackTest {
    public static void main(String[] args) {
        Check check = new Check();
        limits(check);
        allIsAsBefore(check);
        othersStay(check);
        madeSince(check);
        failuresDoNotCount(check);
        check.end();
    }

    private static CordBay counting() {
        CordBay bay = new CordBay();
        Kinds.source(bay, Kinds.INTS, 0, 0, 1, 2, 3, 4, 5, 6, 7, 8, 9, 10, 11, 12, 13, 14, 15);
        return bay;
    }

    private static void limits(Check check) {
        CordBay bay = counting();
        check.due("back(1), no block yet", bay.back(1), -1);
        for (int block = 0; block < 12; block++) {
            bay.block(1);
            check.due("count(3)", bay.count(3), Math.min(8, block + 1));
        }
        for (int n : new int[] {0, -1, 9, Integer.MIN_VALUE, Integer.MAX_VALUE}) {
            check.due("back(" + n + ")", bay.back(n), -1);
        }
        check.dueRow(bay, 0, Kinds.INTS, 11);
        check.due("back(3)", bay.back(3), 5);
        check.dueRow(bay, 0, Kinds.INTS, 8);
        check.due("count(2)", bay.count(2), 9);
        check.due("back(6)", bay.back(6), -1);
        check.due("block(2)", bay.block(2), 0);
        check.dueRow(bay, 0, Kinds.INTS, 9, 10);
        check.due("count(3)", bay.count(3), 6);
        check.due("back(6)", bay.back(6), 0);
        check.dueRow(bay, 0, Kinds.INTS, 3);
        check.due("back(1), it is too long ago", bay.back(1), -1);
        check.due("count(2)", bay.count(2), 4);
        check.due("count(3)", bay.count(3), 0);
        for (int block = 0; block < 9; block++) {
            bay.block(1);
        }
        check.dueRow(bay, 0, Kinds.INTS, 12);
        check.due("back(8)", bay.back(8), 0);
        check.dueRow(bay, 0, Kinds.INTS, 4);
    }

    /** Eight blocks through all kinds that keep something are taken back by each number. */
    private static void allIsAsBefore(Check check) {
        for (int n = 1; n <= 8; n++) {
            CordBay bay = new CordBay();
            CordBay other = new CordBay();
            build(bay);
            build(other);
            for (int block = 0; block < 10; block++) {
                play(bay, block);
                if (block < 10 - n) {
                    play(other, block);
                }
            }
            check.due("back(" + n + ")", bay.back(n), 8 - n);
            dueAlike(check, bay, other);
            for (int block = 10 - n; block < 14; block++) {
                play(bay, block);
                play(other, block);
                dueAlike(check, bay, other);
            }
        }
    }

    private static void build(CordBay bay) {
        int source = Kinds.source(bay, Kinds.DOUBLES, 0, 256, -100, Kinds.LEAST, 70000, 5);
        int late = Kinds.behind(bay, source, Kinds.LATE, 8, 3, -4);
        int filter = Kinds.behind(bay, late, Kinds.FILTER, 8, 3);
        int gate = Kinds.behind(bay, filter, Kinds.GATE, 100, -1);
        int shorts = Kinds.turn(bay, source, Kinds.SHORTS);
        Kinds.behind(bay, shorts, Kinds.DELAY, 3);
        Kinds.behind(bay, filter, Kinds.SHAPE, 8);
        int through = Kinds.behind(bay, late, Kinds.SWITCH);
        bay.cord(gate, through, 1);
    }

    private static void play(CordBay bay, int block) {
        bay.knob(1, 0, 8 + block * 5);
        bay.knob(6, 0, 100 - block * 9);
        bay.block(1 + block % 5);
    }

    private static void dueAlike(Check check, CordBay bay, CordBay other) {
        check.due("count(2)", bay.count(2), other.count(2));
        for (int m = 0; m < bay.count(0); m++) {
            check.due("count(10 + " + m + ")", bay.count(10 + m), other.count(10 + m));
            for (int what = 0; what < 4; what++) {
                check.due("row(" + m + ", " + what + ")", bay.row(m, what), other.row(m, what));
            }
            for (int i = 0; i < 16; i++) {
                check.due("sample(" + m + ", " + i + ")", bay.sample(m, i), other.sample(m, i));
                check.due("isNone(" + m + ", " + i + ")", bay.isNone(m, i), other.isNone(m, i));
            }
        }
    }

    private static void othersStay(Check check) {
        CordBay bay = counting();
        int turn = Kinds.turn(bay, 0, Kinds.SHORTS);
        bay.block(2);
        bay.knob(0, 1, 3);
        bay.knob(turn, 2, 44);
        bay.cord(-1, turn, 1);
        bay.cord(0, turn, 1);
        bay.keep(2);
        bay.take(0);
        bay.table(1, 4);
        bay.write(0, 0, 99);
        check.due("back(1)", bay.back(1), 0);
        check.due("row(0, 0)", bay.row(0, 0), -1);
        check.due("knob(turn, 2, 44)", bay.knob(turn, 2, 44), 44);
        check.due("from(turn, 1)", bay.from(turn, 1), 0);
        check.due("recall(2)", bay.recall(2), 2);
        check.due("count(4)", bay.count(4), 1);
        check.due("equal(1, 1)", bay.equal(1, 1), 1);
        check.due("write(1, 3, 0)", bay.write(1, 3, 0), 1);
        check.dueTrace(bay, 1, 2, -2, -1);
        bay.block(2);
        check.dueRow(bay, 0, Kinds.INTS, 99, 3);
        check.due("take(0), no number twice", bay.take(0), 2);
        check.due("equal(1, 2)", bay.equal(1, 2), 0);
    }

    private static void madeSince(Check check) {
        CordBay bay = counting();
        for (int block = 0; block < 11; block++) {
            bay.block(1);
        }
        int shorts = Kinds.source(bay, Kinds.SHORTS, 1, 40000, 50000, 3);
        int doubles = Kinds.source(bay, Kinds.DOUBLES, 2, 256);
        int filter = Kinds.behind(bay, doubles, Kinds.FILTER, 8, 8);
        int delay = Kinds.behind(bay, 0, Kinds.DELAY, 1);
        bay.block(2);
        bay.block(2);
        check.due("back(3)", bay.back(3), 5);
        check.due("count(0)", bay.count(0), 5);
        for (int m : new int[] {shorts, doubles, filter, delay}) {
            check.due("row(" + m + ", 0)", bay.row(m, 0), -1);
            check.due("count(10 + " + m + ")", bay.count(10 + m), 0);
        }
        bay.block(2);
        check.dueRow(bay, 0, Kinds.INTS, 10, 11);
        check.dueRow(bay, shorts, Kinds.SHORTS, 32767, 32767);
        check.dueRow(bay, filter, Kinds.DOUBLES, 0.5, 1.5);
        check.due("row(delay, 0)", bay.row(delay, 0), -1);
        check.due("count(10 + shorts)", bay.count(10 + shorts), 2);
    }

    /** A block with a FINDING can't be taken back, and does not push out one that can. */
    private static void failuresDoNotCount(Check check) {
        CordBay bay = counting();
        for (int block = 0; block < 9; block++) {
            bay.block(1);
        }
        int lone = bay.module(Kinds.SHAPE, 0);
        for (int i = 0; i < 10; i++) {
            check.due("block(1)", bay.block(1), 1);
        }
        check.due("count(3)", bay.count(3), 8);
        check.due("back(8)", bay.back(8), 0);
        check.dueRow(bay, 0, Kinds.INTS, 0);
        check.due("finding(1), back leaves it", bay.finding(1), lone);
    }
}
