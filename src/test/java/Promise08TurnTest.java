public final class Promise08TurnTest {
    private static final int MAX = Integer.MAX_VALUE;

    public static void main(String[] args) {
        Check check = new Check();
        fromInts(check);
        fromShortsAndGates(check);
        fromDoubles(check);
        floats(check);
        findings(check);
        check.end();
    }

    private static CordBay turned(int rowKind, int... values) {
        CordBay bay = new CordBay();
        int source = Kinds.source(bay, rowKind, 0, values);
        for (int kind = 0; kind <= 4; kind++) {
            Kinds.turn(bay, source, kind);
        }
        bay.block(values.length);
        return bay;
    }

    private static void fromInts(Check check) {
        CordBay bay = turned(Kinds.INTS, 0, 5, -5, 32768, -32769, MAX, Kinds.LEAST, 16777217);
        check.dueRow(bay, 1, Kinds.GATES, 0, 1, 0, 1, 0, 1, 0, 1);
        check.dueRow(bay, 2, Kinds.SHORTS, 0, 5, -5, 32767, -32768, 32767, -32768, 32767);
        check.due("count(12)", bay.count(12), 5);
        check.dueRow(bay, 3, Kinds.INTS, 0, 5, -5, 32768, -32769, MAX, Kinds.LEAST, 16777217);
        check.dueRow(bay, 4, Kinds.FLOATS, 0, 5 / 256.0, -5 / 256.0, 128, -128.00390625, 1e6, -1e6, 65536);
        check.dueRow(bay, 5, Kinds.DOUBLES, 0, 5 / 256.0, -5 / 256.0, 128, -128.00390625, 1e6, -1e6,
            65536.00390625);
        check.due("count(11)", bay.count(11), 0);
        check.due("count(13)", bay.count(13), 0);
        check.due("count(14)", bay.count(14), 0);
        check.due("count(15)", bay.count(15), 0);
    }

    private static void fromShortsAndGates(Check check) {
        CordBay bay = turned(Kinds.SHORTS, 40000, -40000, 0);
        check.dueRow(bay, 1, Kinds.GATES, 1, 0, 0);
        check.dueRow(bay, 2, Kinds.SHORTS, 32767, -32768, 0);
        check.dueRow(bay, 3, Kinds.INTS, 32767, -32768, 0);
        check.dueRow(bay, 4, Kinds.FLOATS, 127.99609375, -128, 0);
        check.dueRow(bay, 5, Kinds.DOUBLES, 127.99609375, -128, 0);
        check.due("count(10)", bay.count(10), 2);
        check.due("count(12)", bay.count(12), 0);
        bay = turned(Kinds.GATES, 3, -3);
        check.dueRow(bay, 1, Kinds.GATES, 1, 0);
        check.dueRow(bay, 2, Kinds.SHORTS, 1, 0);
        check.dueRow(bay, 3, Kinds.INTS, 1, 0);
        check.dueRow(bay, 4, Kinds.FLOATS, 0.00390625, 0);
        check.dueRow(bay, 5, Kinds.DOUBLES, 0.00390625, 0);
    }

    private static void fromDoubles(Check check) {
        // Halved twice by SHAPE, so that x * 256 has a part to cut off.
        CordBay bay = new CordBay();
        int source = Kinds.source(bay, Kinds.DOUBLES, 0, 1, -1, 7, -7, Kinds.LEAST, 0, 256000000, -256000000,
            131072, 131071, -131072, -131076);
        int shape = Kinds.behind(bay, source, Kinds.SHAPE, 2);
        bay.block(12);
        for (int kind = 0; kind <= 4; kind++) {
            Kinds.turn(bay, shape, kind);
        }
        bay.block(12);
        check.dueRow(bay, 2, Kinds.GATES, 1, 0, 1, 0, 0, 0, 1, 0, 1, 1, 0, 0);
        check.dueRow(bay, 3, Kinds.SHORTS, 0, 0, 1, -1, 0, 0, 32767, -32768, 32767, 32767, -32768, -32768);
        check.due("count(13)", bay.count(13), 4);
        check.dueRow(bay, 4, Kinds.INTS, 0, 0, 1, -1, 0, 0, 64000000, -64000000, 32768, 32767, -32768, -32769);
        check.due("count(14)", bay.count(14), 0);
        check.dueRow(bay, 5, Kinds.FLOATS, 1 / 1024.0, -1 / 1024.0, 7 / 1024.0, -7 / 1024.0, Kinds.NONE, 0,
            250000, -250000, 128, (float) (131071 / 1024.0), -128, (float) (-131076 / 1024.0));
        check.dueRow(bay, 6, Kinds.DOUBLES, 1 / 1024.0, -1 / 1024.0, 7 / 1024.0, -7 / 1024.0, Kinds.NONE, 0,
            250000, -250000, 128, 131071 / 1024.0, -128, -131076 / 1024.0);
    }

    private static void floats(Check check) {
        CordBay bay = turned(Kinds.FLOATS, 16777219, Kinds.LEAST, -300, MAX);
        check.dueRow(bay, 1, Kinds.GATES, 1, 0, 0, 1);
        check.dueRow(bay, 2, Kinds.SHORTS, 32767, 0, -300, 32767);
        check.dueRow(bay, 3, Kinds.INTS, 16777220, 0, -300, 256000000);
        check.dueRow(bay, 4, Kinds.FLOATS, 16777220 / 256.0, Kinds.NONE, -300 / 256.0, 1e6);
        check.dueRow(bay, 5, Kinds.DOUBLES, 16777220 / 256.0, Kinds.NONE, -300 / 256.0, 1e6);
        // A double between two floats goes to the nearest; of two, to the even one.
        bay = turned(Kinds.DOUBLES, 16777217, 16777219, 33554434, 33554435, -16777219);
        check.dueRow(bay, 4, Kinds.FLOATS, 65536, 16777220 / 256.0, 33554432 / 256.0, 33554436 / 256.0,
            -16777220 / 256.0);
    }

    private static void findings(Check check) {
        for (int rowKind = 0; rowKind <= 4; rowKind++) {
            CordBay bay = new CordBay();
            int turn = bay.module(Kinds.TURN, rowKind);
            check.dueFinding(bay, 1, 1, turn, -1);
            bay.cord(bay.module(Kinds.MIX, 0), turn, 0);
            check.dueFinding(bay, 1, 2, turn, -1);
            int source = Kinds.source(bay, rowKind, 0, 1);
            int delay = Kinds.behind(bay, source, Kinds.DELAY);
            bay.cord(source, turn, 0);
            bay.block(7);
            bay.cord(delay, turn, 0);
            check.dueFinding(bay, 8, 3, turn, 7);
            check.due("block(3)", bay.block(3), 0);
            check.due("row(turn, 1)", bay.row(turn, 1), 3);
        }
    }
}
