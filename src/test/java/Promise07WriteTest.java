public final class Promise07WriteTest {
    public static void main(String[] args) {
        Check check = new Check();
        CordBay bay = new CordBay();
        int m = Kinds.source(bay, Kinds.INTS, 2, 1, 2, 3);
        bay.table(4, 3);
        check.due("write(2, 0, MIN)", bay.write(2, 0, Integer.MIN_VALUE), 1);
        check.due("write(2, 2, MAX)", bay.write(2, 2, Integer.MAX_VALUE), 1);
        check.due("write(4, 1, 77)", bay.write(4, 1, 77), 1);
        check.due("write(2, 3, 0)", bay.write(2, 3, 0), -3);
        check.due("write(2, -1, 0)", bay.write(2, -1, 0), -3);
        check.due("write(2, MIN, 0)", bay.write(2, Integer.MIN_VALUE, 0), -3);
        check.due("write(2, MAX, 0)", bay.write(2, Integer.MAX_VALUE, 0), -3);
        check.due("write(1, -1, 0), MISSING first", bay.write(1, -1, 0), -2);
        check.due("write(-1, 0, 0)", bay.write(-1, 0, 0), -1);
        check.due("write(8, -1, 0)", bay.write(8, -1, 0), -1);
        check.due("write(MIN, 0, 0)", bay.write(Integer.MIN_VALUE, 0, 0), -1);
        check.due("write(MAX, 0, 0)", bay.write(Integer.MAX_VALUE, 0, 0), -1);
        bay.table(1, 0);
        check.due("write(1, 0, 0), no place", bay.write(1, 0, 0), -3);
        bay.block(3);
        check.dueRow(bay, m, Kinds.INTS, Integer.MIN_VALUE, 2, Integer.MAX_VALUE);
        check.end();
    }
}
