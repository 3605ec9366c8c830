public final class Promise04FromTest {
    public static void main(String[] args) {
        Check check = new Check();
        CordBay bay = new CordBay();
        check.due("from(0, 0) of an empty bay", bay.from(0, 0), -2);
        bay.module(Kinds.SOURCE, 0);
        bay.module(Kinds.MIX, 0);
        bay.cord(0, 1, 2);
        check.due("from(1, 2)", bay.from(1, 2), 0);
        check.due("from(1, 0)", bay.from(1, 0), -1);
        check.due("from(1, 1)", bay.from(1, 1), -1);
        check.due("from(1, 3)", bay.from(1, 3), -2);
        check.due("from(1, -1)", bay.from(1, -1), -2);
        check.due("from(0, 1)", bay.from(0, 1), -1);
        check.due("from(0, 2)", bay.from(0, 2), -2);
        check.due("from(2, 0)", bay.from(2, 0), -2);
        check.due("from(-1, 0)", bay.from(-1, 0), -2);
        check.due("from(MIN, MIN)", bay.from(Integer.MIN_VALUE, Integer.MIN_VALUE), -2);
        check.due("from(MAX, MAX)", bay.from(Integer.MAX_VALUE, Integer.MAX_VALUE), -2);
        bay.cord(-1, 1, 2);
        check.due("from(1, 2)", bay.from(1, 2), -1);
        check.end();
    }
}
