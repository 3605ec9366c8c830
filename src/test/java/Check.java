/** Counts and prints the answers that are not the ones that are due; ends a test with exit code 1. */
final class Check {
    private int asked;
    private int wrong;

    int asked() {
        return asked;
    }

    int wrong() {
        return wrong;
    }

    void due(String call, double got, double want) {
        asked++;
        if (got != want) {
            wrong++;
            System.out.println("  " + call + " answered " + got + ", due is " + want);
        }
    }

    void due(String call, boolean got, boolean want) {
        due(call, got ? 1 : 0, want ? 1 : 0);
    }

    /** Samples 0 and on of the row of module m; NaN stands for NO NUMBER. */
    void dueRow(CordBay bay, int m, int kind, double... want) {
        due("row(" + m + ", 0)", bay.row(m, 0), kind);
        due("row(" + m + ", 1)", bay.row(m, 1), want.length);
        for (int i = 0; i < want.length; i++) {
            boolean none = want[i] != want[i];
            due("isNone(" + m + ", " + i + ")", bay.isNone(m, i), none);
            due("sample(" + m + ", " + i + ")", bay.sample(m, i), none ? 0 : want[i]);
        }
    }

    void dueFinding(CordBay bay, int n, int code, int module, int sample) {
        due("block(" + n + ")", bay.block(n), code);
        due("finding(0)", bay.finding(0), code);
        due("finding(1)", bay.finding(1), module);
        due("finding(2)", bay.finding(2), sample);
    }

    void dueTrace(CordBay bay, int... want) {
        for (int i = 0; i < want.length; i++) {
            due("trace(" + i + ")", bay.trace(i), want[i]);
        }
        due("trace(" + want.length + ")", bay.trace(want.length), 0);
    }

    void dueOrder(CordBay bay, int... want) {
        for (int i = 0; i < want.length; i++) {
            due("order(" + i + ")", bay.order(i), want[i]);
        }
        due("order(" + want.length + ")", bay.order(want.length), -1);
    }

    void end() {
        if (wrong != 0) {
            System.out.println("  " + wrong + " answers are not as due");
            System.exit(1);
        }
    }
}
