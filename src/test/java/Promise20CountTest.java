public final class Promise20CountTest {
    public static void main(String[] args) {
        Check check = new Check();
        CordBay bay = new CordBay();
        int source = Kinds.source(bay, Kinds.INTS, 0, 40000, -40000, 5);
        int turn = Kinds.turn(bay, source, Kinds.SHORTS);
        int mix = Kinds.behind(bay, source, Kinds.MIX);
        bay.cord(source, mix, 1);
        bay.cord(source, mix, 2);
        bay.cord(turn, source, 1);
        check.due("count(0)", bay.count(0), 3);
        check.due("count(1), a refused cord is none", bay.count(1), 4);
        bay.cord(-1, mix, 1);
        check.due("count(1)", bay.count(1), 3);
        bay.block(3);
        bay.block(2);
        bay.take(source);
        check.due("count(2)", bay.count(2), 2);
        check.due("count(3)", bay.count(3), 2);
        check.due("count(4)", bay.count(4), 1);
        check.due("count(10)", bay.count(10), 0);
        check.due("count(11)", bay.count(11), 4);
        check.due("count(12)", bay.count(12), 0);
        bay.back(1);
        check.due("count(11)", bay.count(11), 2);
        check.due("count(2)", bay.count(2), 1);
        check.due("count(3)", bay.count(3), 1);
        check.due("count(4)", bay.count(4), 1);
        check.due("count(40)", bay.count(40), Kinds.SOURCE);
        check.due("count(41)", bay.count(41), Kinds.TURN);
        check.due("count(42)", bay.count(42), Kinds.MIX);
        for (int what : new int[] {-1, 5, 9, 13, 33, 34, 39, 43, 63, 64, Integer.MIN_VALUE, Integer.MAX_VALUE}) {
            check.due("count(" + what + ")", bay.count(what), -1);
        }
        for (int m = 3; m < 24; m++) {
            bay.module(Kinds.GATE, 0);
        }
        check.due("count(33)", bay.count(33), 0);
        check.due("count(34)", bay.count(34), -1);
        check.due("count(39)", bay.count(39), -1);
        check.due("count(63)", bay.count(63), Kinds.GATE);
        check.due("count(64)", bay.count(64), -1);
        cordsOfModuleZero(check);
        manyBlocks(check);
        check.end();
    }

    private static void cordsOfModuleZero(Check check) {
        CordBay bay = new CordBay();
        bay.module(Kinds.SHAPE, 0);
        bay.module(Kinds.DELAY, 0);
        bay.cord(1, 0, 0);
        bay.cord(1, 0, 1);
        bay.cord(1, 1, 1);
        check.due("count(1)", bay.count(1), 3);
    }

    private static void manyBlocks(Check check) {
        CordBay bay = new CordBay();
        for (int block = 1; block <= 20; block++) {
            bay.block(1);
            check.due("count(2)", bay.count(2), block);
            check.due("count(3)", bay.count(3), Math.min(8, block));
        }
    }
}
