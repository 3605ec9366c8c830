public final class Promise01NewObjectTest {
    public static void main(String[] args) {
        Check check = new Check();
        CordBay bay = new CordBay();
        for (int what = 0; what <= 4; what++) {
            check.due("count(" + what + ")", bay.count(what), 0);
        }
        check.due("count(10)", bay.count(10), -1);
        check.due("count(40)", bay.count(40), -1);
        check.due("order(0)", bay.order(0), -1);
        check.due("trace(0)", bay.trace(0), 0);
        check.due("finding(0)", bay.finding(0), -1);
        check.due("finding(2)", bay.finding(2), -1);
        check.due("row(0, 0)", bay.row(0, 0), -2);
        check.due("sample(0, 0)", bay.sample(0, 0), 0);
        check.due("isNone(0, 0)", bay.isNone(0, 0), false);
        check.due("equal(1, 1)", bay.equal(1, 1), -1);
        check.due("back(1)", bay.back(1), -1);
        for (int t = 0; t < 8; t++) {
            check.due("write(" + t + ", 0, 0)", bay.write(t, 0, 0), -2);
            check.due("recall(" + t + ")", bay.recall(t), -2);
        }
        ownState(check);
        check.end();
    }

    private static void ownState(Check check) {
        CordBay one = new CordBay();
        CordBay other = new CordBay();
        Kinds.source(one, Kinds.INTS, 0, 5);
        one.block(1);
        one.take(0);
        one.keep(0);
        check.due("count(0) of another", other.count(0), 0);
        check.due("count(4) of another", other.count(4), 0);
        check.due("equal(1, 1) of another", other.equal(1, 1), -1);
        check.due("write(0, 0, 0) of another", other.write(0, 0, 0), -2);
        check.due("recall(0) of another", other.recall(0), -2);
        Kinds.source(other, Kinds.INTS, 0, 5);
        other.block(1);
        check.due("take(0), its own first number", other.take(0), 1);
    }
}
