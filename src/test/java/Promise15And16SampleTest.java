/** Promises 15 and 16, sample and isNone. */
public final class Promise15And16SampleTest {
    public static void main(String[] args) {
        Check check = new Check();
        CordBay bay = new CordBay();
        int doubles = Kinds.source(bay, Kinds.DOUBLES, 0, 1, Kinds.LEAST, -256000001);
        int ints = Kinds.source(bay, Kinds.INTS, 0, 1, Kinds.LEAST, -256000001);
        int silent = bay.module(Kinds.MIX, 0);
        check.due("sample(doubles, 0) ahead of a block", bay.sample(doubles, 0), 0);
        check.due("isNone(doubles, 1) ahead of a block", bay.isNone(doubles, 1), false);
        bay.block(2);
        check.due("sample(doubles, 0)", bay.sample(doubles, 0), 0.00390625);
        check.due("sample(doubles, 1)", bay.sample(doubles, 1), 0);
        check.due("isNone(doubles, 0)", bay.isNone(doubles, 0), false);
        check.due("isNone(doubles, 1)", bay.isNone(doubles, 1), true);
        check.due("sample(ints, 1)", bay.sample(ints, 1), Integer.MIN_VALUE);
        check.due("isNone(ints, 1)", bay.isNone(ints, 1), false);
        for (int i : new int[] {-1, 2, 16, 33, 32 + 1, Integer.MIN_VALUE, Integer.MAX_VALUE}) {
            check.due("sample(doubles, " + i + ")", bay.sample(doubles, i), 0);
            check.due("isNone(doubles, " + i + ")", bay.isNone(doubles, i), false);
        }
        for (int m : new int[] {silent, -1, 3, Integer.MIN_VALUE, Integer.MAX_VALUE}) {
            check.due("sample(" + m + ", 0)", bay.sample(m, 0), 0);
            check.due("isNone(" + m + ", 1)", bay.isNone(m, 1), false);
        }
        bay.block(1);
        check.due("sample(doubles, 0)", bay.sample(doubles, 0), -1000000);
        check.due("isNone(doubles, 1), the new row is shorter", bay.isNone(doubles, 1), false);
        allSixteen(check);
        check.end();
    }

    private static void allSixteen(Check check) {
        CordBay bay = new CordBay();
        int[] values = new int[16];
        for (int i = 0; i < 16; i++) {
            values[i] = i % 3 == 0 ? Kinds.LEAST : 256 * i;
        }
        int floats = Kinds.source(bay, Kinds.FLOATS, 0, values);
        bay.block(16);
        for (int i = 0; i < 16; i++) {
            check.due("isNone(floats, " + i + ")", bay.isNone(floats, i), i % 3 == 0);
            check.due("sample(floats, " + i + ")", bay.sample(floats, i), i % 3 == 0 ? 0 : i);
        }
    }
}
