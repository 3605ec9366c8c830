import java.util.ArrayList;
import java.util.List;

/**
 * Two bays with the same calls behind them. A test does to the first what must leave all as it was,
 * and the two must then answer alike, now and in what comes after.
 */
final class Twins {
    static final int LENGTH = 4;
    static final int DOUBLES = 0, LATE = 1, GATE = 2, SWITCH = 3, SHORTS = 4, INTS = 5, MIX = 6, DELAY = 7, MEAN = 8;
    /** A module that gives no row, and the first number that is no module's. */
    static final int SILENT = 9, BEYOND = 10;

    final CordBay bay = busy();
    private final CordBay other = busy();

    /** Ten modules, two tables, two presets, two takes, three blocks done and a fourth that failed. */
    private static CordBay busy() {
        CordBay bay = new CordBay();
        Kinds.source(bay, Kinds.DOUBLES, 0, 256, 8192000, Kinds.LEAST, -512, 300);
        Kinds.behind(bay, DOUBLES, Kinds.LATE, 8, 3, -4);
        Kinds.behind(bay, LATE, Kinds.GATE, 100, -1);
        Kinds.behind(bay, LATE, Kinds.SWITCH);
        bay.cord(GATE, SWITCH, 1);
        Kinds.turn(bay, DOUBLES, Kinds.SHORTS);
        Kinds.source(bay, Kinds.INTS, 1, Integer.MAX_VALUE, -5, 7);
        Kinds.behind(bay, INTS, Kinds.MIX);
        Kinds.behind(bay, MIX, Kinds.DELAY, 2);
        bay.cord(DELAY, MIX, 1);
        Kinds.behind(bay, MIX, Kinds.MEAN, 1);
        bay.module(Kinds.MIX, 0);
        bay.keep(0);
        bay.knob(LATE, 0, 16);
        bay.keep(3);
        for (int block = 0; block < 3; block++) {
            bay.block(LENGTH);
        }
        bay.take(DOUBLES);
        bay.take(MIX);
        bay.knob(DOUBLES, 0, 9);
        bay.block(LENGTH);
        bay.knob(DOUBLES, 0, 0);
        return bay;
    }

    /** The bays are alike in all that can be asked and in what they do from here on. */
    void dueAlike(Check check) {
        dueSame(check, latestBlock(bay), latestBlock(other));
        dueAlikeFromHere(check);
    }

    /** As dueAlike, but where a block came between: its TRACE and FINDING are its own. */
    void dueAlikeFromHere(Check check) {
        dueSame(check, setting(bay), setting(other));
        dueSame(check, rows(bay), rows(other));
        dueSame(check, nextCalls(bay), nextCalls(other));
        dueSame(check, rows(bay), rows(other));
    }

    /** As dueAlikeFromHere, but where the bays differ in how many blocks can be taken back. */
    void dueRowsAlike(Check check) {
        dueSame(check, rows(bay), rows(other));
        for (int block = 0; block < 2; block++) {
            check.due("block", bay.block(LENGTH), other.block(LENGTH));
            dueSame(check, rows(bay), rows(other));
        }
    }

    private static void dueSame(Check check, List<String> got, List<String> want) {
        check.due("as many answers", got.size(), want.size());
        for (int i = 0; i < Math.min(got.size(), want.size()); i++) {
            check.due(got.get(i) + " (the twin: " + want.get(i) + ")", got.get(i).equals(want.get(i)), true);
        }
    }

    private static List<String> latestBlock(CordBay bay) {
        List<String> told = new ArrayList<>();
        for (int i = 0; i < 6; i++) {
            told.add("trace(" + i + ") " + bay.trace(i));
            told.add("finding(" + i + ") " + bay.finding(i));
        }
        return told;
    }

    private static List<String> setting(CordBay bay) {
        List<String> told = new ArrayList<>();
        for (int what = 0; what <= 4; what++) {
            told.add("count(" + what + ") " + bay.count(what));
        }
        for (int m = 0; m < BEYOND; m++) {
            told.add("order(" + m + ") " + bay.order(m) + ", kind " + bay.count(40 + m));
            told.add("from(" + m + ") " + bay.from(m, 0) + " " + bay.from(m, 1) + " " + bay.from(m, 2));
            for (int k = 0; k < 3; k++) {
                int was = bay.knob(m, k, 0);
                bay.knob(m, k, was);
                told.add("knob " + k + " of " + m + " " + was);
            }
        }
        return told;
    }

    private static List<String> rows(CordBay bay) {
        List<String> told = new ArrayList<>();
        for (int m = 0; m < BEYOND; m++) {
            told.add("count(10 + " + m + ") " + bay.count(10 + m));
            told.add("row(" + m + ") " + bay.row(m, 0) + " " + bay.row(m, 1) + " " + bay.row(m, 3));
            for (int i = 0; i < LENGTH; i++) {
                told.add("sample(" + m + ", " + i + ") " + bay.sample(m, i) + " " + bay.isNone(m, i));
            }
        }
        return told;
    }

    /** Table, preset and take numbers that are in use, and one each that is not. */
    private static List<String> nextCalls(CordBay bay) {
        List<String> told = new ArrayList<>();
        told.add("block " + bay.block(LENGTH));
        told.add("block of what was kept " + bay.recall(0) + " " + bay.block(LENGTH));
        told.add("recall " + bay.recall(3) + " " + bay.recall(7));
        told.add("take " + bay.take(SHORTS) + " " + bay.equal(1, 2) + " " + bay.equal(1, 4));
        told.add("write " + bay.write(0, 4, 77) + " " + bay.write(0, 5, 77) + " " + bay.write(7, 0, 77));
        told.add("block of what was written " + bay.block(LENGTH));
        told.add("back " + bay.back(4) + " " + bay.back(8));
        return told;
    }
}
