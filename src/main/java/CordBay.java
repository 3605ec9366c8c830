/**
 * A bay of modules that are joined by cords. Blocks of samples go through it in the order that the
 * cords give. The words in capitals are those of the document, shared/DOC.md.
 */
public final class CordBay {
    // Kinds of modules.
    private static final int SOURCE = 0;
    private static final int SHAPE = 1;
    private static final int FILTER = 2;
    private static final int SLOW = 3;
    private static final int LATE = 4;
    private static final int MIX = 5;
    private static final int DELAY = 6;
    private static final int GATE = 7;
    private static final int TURN = 8;
    private static final int SWITCH = 9;
    private static final int MEAN = 10;

    // Kinds of rows; those from FLOATS on are floating.
    private static final int GATES = 0;
    private static final int SHORTS = 1;
    private static final int INTS = 2;
    private static final int FLOATS = 3;
    private static final int DOUBLES = 4;
    private static final int ANY_KIND = -1;

    // Findings.
    private static final int NO_FINDING = 0;
    private static final int LEADS_NOWHERE = 1;
    private static final int NOTHING_GIVEN = 2;
    private static final int NOT_SO_LONG = 3;
    private static final int WRONG_KIND = 4;
    private static final int ZERO_DIVISOR = 5;
    private static final int AT_NO_SAMPLE = -1;

    // Limits.
    private static final int MOST_MODULES = 24;
    private static final int MOST_SAMPLES = 16;
    private static final int MOST_BACK = 8;
    private static final int MOST_TAKES = 40;
    private static final int MOST_BLOCKS_AGO = 4;
    private static final int TABLE_COUNT = 8;
    private static final int MOST_PLACES = 16;
    private static final int PRESET_COUNT = 8;
    private static final int KNOB_COUNT = 3;
    private static final int MOST_KNOB = 1000;
    private static final int LEAST_SHORT = -32768;
    private static final int MOST_SHORT = 32767;
    private static final int LEAST_INT = -2147483648;
    private static final int MOST_INT = 2147483647;
    private static final int MOST_FLOATING = 1000000;

    private static final int NOWHERE = -1;
    private static final int MISSING = -1;
    private static final int NEVER_KEPT = -1;

    // One more than can be taken back: a block that fails must not cost the oldest of them.
    private static final int PAST_SLOTS = MOST_BACK + 1;

    private final Rack rack;
    private final Tables tables;
    private final Presets presets;
    private final Takes takes;
    private final History history;
    private final Block latest;

    public CordBay() {
        rack = new Rack();
        tables = new Tables();
        presets = new Presets();
        takes = new Takes();
        history = new History(rack);
        latest = new Block(rack, tables);
    }

    public int module(int kind, int rowKind) {
        if (kind < SOURCE || kind > MEAN || rowKind < GATES || rowKind > DOUBLES) {
            return -1;
        }
        return rack.isFull() ? -2 : rack.add(kind, rowKind);
    }

    public int cord(int o, int m, int in) {
        Unit to = rack.at(m);
        if (to == null || !to.hasIn(in) || (o != NOWHERE && rack.at(o) == null)) {
            return -1;
        }
        int loop = rack.shortestLoop(o, m);
        if (loop > 0) {
            return -10 - loop;
        }
        rack.join(o, to, in);
        return 1;
    }

    public int from(int m, int in) {
        Unit unit = rack.at(m);
        return unit == null || !unit.hasIn(in) ? -2 : unit.cordOf(in);
    }

    public int knob(int m, int k, int v) {
        Unit unit = rack.at(m);
        if (unit == null || k < 0 || k >= KNOB_COUNT || v < -MOST_KNOB || v > MOST_KNOB) {
            return -2000;
        }
        int was = unit.knobs[k];
        unit.knobs[k] = v;
        return was;
    }

    public int table(int t, int n) {
        if (!tables.has(t) || n < MISSING || n > MOST_PLACES) {
            return -1;
        }
        tables.renew(t, n);
        return 1;
    }

    public int write(int t, int i, int v) {
        if (!tables.has(t)) {
            return -1;
        }
        if (tables.isMissing(t)) {
            return -2;
        }
        if (!tables.hasPlace(t, i)) {
            return -3;
        }
        tables.put(t, i, v);
        return 1;
    }

    public int block(int n) {
        if (n < 1 || n > MOST_SAMPLES) {
            return -1;
        }
        history.remember();
        int found = latest.perform(n);
        if (found == NO_FINDING) {
            history.advance();
        } else {
            history.undo();
        }
        return found;
    }

    public int back(int n) {
        if (n < 1 || n > MOST_BACK || n > history.reach) {
            return -1;
        }
        history.goBack(n);
        return history.reach;
    }

    public int keep(int p) {
        return presets.has(p) ? presets.store(p, rack) : -1;
    }

    public int recall(int p) {
        if (!presets.has(p)) {
            return -1;
        }
        return presets.isUnused(p) ? -2 : presets.restore(p, rack);
    }

    public int take(int m) {
        if (rack.at(m) == null) {
            return -1;
        }
        Row given = rack.givenBy(m);
        if (given == null) {
            return -2;
        }
        return takes.isFull() ? -3 : takes.add(given);
    }

    public int equal(int t, int u) {
        Row first = takes.at(t);
        Row second = takes.at(u);
        if (first == null || second == null) {
            return -1;
        }
        return first.isSameAs(second) ? 1 : 0;
    }

    public int row(int m, int what) {
        if (rack.at(m) == null || what < 0 || what > 3) {
            return -2;
        }
        Row given = rack.givenBy(m);
        if (given == null) {
            return -1;
        }
        switch (what) {
            case 0:
                return given.kind;
            case 1:
                return given.length;
            case 2:
                return given.isSilent() ? 1 : 0;
            default:
                return given.noneCount();
        }
    }

    public double sample(int m, int i) {
        Row given = rack.givenBy(m);
        return given == null ? 0 : given.valueAt(i);
    }

    public boolean isNone(int m, int i) {
        Row given = rack.givenBy(m);
        return given != null && given.lacksNumberAt(i);
    }

    public int order(int i) {
        return rack.inLine(i);
    }

    public int trace(int i) {
        return latest.markAt(i);
    }

    public int finding(int what) {
        if (latest.found == NO_FINDING) {
            return -1;
        }
        switch (what) {
            case 0:
                return latest.found;
            case 1:
                return latest.foundModule;
            case 2:
                return latest.foundSample;
            default:
                return -1;
        }
    }

    public int count(int what) {
        switch (what) {
            case 0:
                return rack.size;
            case 1:
                return rack.cordCount();
            case 2:
                return history.done;
            case 3:
                return history.reach;
            case 4:
                return takes.size;
            default:
                return countOfModule(what);
        }
    }

    private int countOfModule(int what) {
        if (what >= 40 && what < 40 + rack.size) {
            Unit unit = rack.at(what - 40);
            return unit == null ? -1 : unit.kind;
        }
        if (what >= 10 && what < 10 + rack.size) {
            Unit unit = rack.at(what - 10);
            return unit == null ? -1 : unit.now.saturations;
        }
        return -1;
    }

    private static double heldFloating(double x) {
        if (x > MOST_FLOATING) {
            return MOST_FLOATING;
        }
        return x < -MOST_FLOATING ? -MOST_FLOATING : x;
    }

    /** A row of samples. Once a module gives it, it is never changed, so that many may share it. */
    private static final class Row {
        final int kind;
        final int length;
        // Where a sample is NO NUMBER its value is 0, and its bit in lacking is set.
        private final double[] values;
        private int lacking;

        /** The length is 1 to 16. */
        Row(int kind, int length) {
            this.kind = kind;
            this.length = length;
            values = new double[length];
        }

        boolean isFloating() {
            return kind >= FLOATS;
        }

        boolean has(int i) {
            return i >= 0 && i < length;
        }

        double valueAt(int i) {
            return has(i) ? values[i] : 0;
        }

        boolean lacksNumberAt(int i) {
            return has(i) && (lacking >> i & 1) != 0;
        }

        void put(int i, double value) {
            if (i >= 0 && i < length) {
                values[i] = kind == FLOATS ? (double) (float) value : value;
            }
        }

        void putNoNumber(int i) {
            if (has(i)) {
                lacking |= 1 << i;
            }
        }

        int noneCount() {
            return Integer.bitCount(lacking);
        }

        boolean isSilent() {
            if (lacking != 0) {
                return false;
            }
            for (int i = 0; i < length; i++) {
                if (values[i] != 0) {
                    return false;
                }
            }
            return true;
        }

        boolean isSameAs(Row other) {
            if (kind != other.kind || length != other.length || lacking != other.lacking) {
                return false;
            }
            for (int i = 0; i < length; i++) {
                if (!haveSameBits(values[i], other.valueAt(i))) {
                    return false;
                }
            }
            return true;
        }

        private static boolean haveSameBits(double a, double b) {
            if (a != b) {
                return false;
            }
            // The zeros of either sign are equal, but their inverses are the two infinities.
            return a != 0 || 1 / a == 1 / b;
        }
    }

    /** What a module gives and keeps: all that a block changes, and that is taken back with it. */
    private static final class State {
        Row gives;
        int place;
        double kept;
        double old;
        int up;
        int saturations;
        int knobBefore;
        // What a DELAY was fed, the latest first.
        private final Row[] fed = new Row[MOST_BLOCKS_AGO];

        void copyFrom(State other) {
            gives = other.gives;
            place = other.place;
            kept = other.kept;
            old = other.old;
            up = other.up;
            saturations = other.saturations;
            knobBefore = other.knobBefore;
            for (int i = 0; i < MOST_BLOCKS_AGO; i++) {
                fed[i] = other.fed[i];
            }
        }

        void feed(Row given) {
            for (int i = MOST_BLOCKS_AGO - 1; i > 0; i--) {
                fed[i] = fed[i - 1];
            }
            fed[0] = given;
        }

        Row fedAgo(int blocks) {
            return fed[Math.max(1, Math.min(MOST_BLOCKS_AGO, blocks)) - 1];
        }

        int heldWithin(int least, int most, long v) {
            if (v >= least && v <= most) {
                return (int) v;
            }
            saturations++;
            return v < least ? least : most;
        }
    }

    /** A module. */
    private static final class Unit {
        final int number;
        final int kind;
        final int rowKind;
        final int[] knobs = new int[KNOB_COUNT];
        final State now = new State();
        private final int[] ins;
        // Slots of blocks ahead of this module's making are as new: so it is, when it is taken back.
        private final State[] past = new State[PAST_SLOTS];

        Unit(int number, int kind, int rowKind) {
            this.number = number;
            this.kind = kind;
            this.rowKind = rowKind;
            ins = new int[kind == MIX ? 3 : 2];
            for (int in = 0; in < ins.length; in++) {
                ins[in] = NOWHERE;
            }
            for (int slot = 0; slot < PAST_SLOTS; slot++) {
                past[slot] = new State();
            }
        }

        boolean hasIn(int in) {
            return in >= 0 && in < ins.length;
        }

        int inCount() {
            return ins.length;
        }

        int cordOf(int in) {
            return hasIn(in) ? ins[in] : NOWHERE;
        }

        void setCord(int in, int o) {
            if (hasIn(in)) {
                ins[in] = o;
            }
        }

        void remember(int slot) {
            if (slot >= 0 && slot < PAST_SLOTS) {
                past[slot].copyFrom(now);
            }
        }

        void becomeAsIn(int slot) {
            if (slot >= 0 && slot < PAST_SLOTS) {
                now.copyFrom(past[slot]);
            }
        }
    }

    /** All modules, and how the cords join them. */
    private static final class Rack {
        int size;
        private final Unit[] units = new Unit[MOST_MODULES];
        private final int[] line = new int[MOST_MODULES];
        private final boolean[] acted = new boolean[MOST_MODULES];
        private final int[] steps = new int[MOST_MODULES];

        boolean isFull() {
            return size >= MOST_MODULES;
        }

        Unit at(int m) {
            return m >= 0 && m < size ? units[m] : null;
        }

        Row givenBy(int m) {
            return m >= 0 && m < size ? units[m].now.gives : null;
        }

        int inLine(int i) {
            return i >= 0 && i < size ? line[i] : -1;
        }

        /** Called only while the rack is not full. */
        int add(int kind, int rowKind) {
            int number = size;
            units[number] = new Unit(number, kind, rowKind);
            size = number + 1;
            lineUp();
            return number;
        }

        void join(int o, Unit to, int in) {
            to.setCord(in, o);
            lineUp();
        }

        int cordCount() {
            int cords = 0;
            for (int m = 0; m < size; m++) {
                Unit unit = units[m];
                for (int in = 0; in < unit.inCount(); in++) {
                    cords += unit.cordOf(in) == NOWHERE ? 0 : 1;
                }
            }
            return cords;
        }

        /** How many modules the loop has that a cord from o to m would close; 0 if none. */
        int shortestLoop(int o, int m) {
            Unit start = at(m);
            Unit end = at(o);
            if (start == null || end == null || start.kind == DELAY || end.kind == DELAY) {
                return 0;
            }
            for (int i = 0; i < size; i++) {
                steps[i] = i == m ? 1 : 0;
            }
            for (int reached = 1; reached < size && steps[o] == 0; reached++) {
                stepOn(reached);
            }
            return steps[o];
        }

        private void stepOn(int reached) {
            for (int i = 0; i < size; i++) {
                if (steps[i] == 0 && units[i].kind != DELAY && isFedAtStep(units[i], reached)) {
                    steps[i] = reached + 1;
                }
            }
        }

        private boolean isFedAtStep(Unit unit, int reached) {
            for (int in = 0; in < unit.inCount(); in++) {
                int o = unit.cordOf(in);
                if (o >= 0 && o < size && steps[o] == reached) {
                    return true;
                }
            }
            return false;
        }

        private void lineUp() {
            int delays = 0;
            for (int m = 0; m < size; m++) {
                acted[m] = units[m].kind == DELAY;
                if (acted[m]) {
                    line[delays] = m;
                    delays++;
                }
            }
            for (int i = delays; i < size; i++) {
                placeNext(i);
            }
        }

        /** There always is one that is ready, as no cord closes a loop without a DELAY. */
        private void placeNext(int i) {
            int m = leastReady();
            if (m >= 0) {
                acted[m] = true;
                line[i] = m;
            }
        }

        private int leastReady() {
            for (int m = 0; m < size; m++) {
                if (!acted[m] && isReady(units[m])) {
                    return m;
                }
            }
            return -1;
        }

        private boolean isReady(Unit unit) {
            for (int in = 0; in < unit.inCount(); in++) {
                int o = unit.cordOf(in);
                if (o >= 0 && o < size && !acted[o]) {
                    return false;
                }
            }
            return true;
        }
    }

    /** The tables. Places beyond a table's length are not looked at. */
    private static final class Tables {
        private final int[][] places = new int[TABLE_COUNT][MOST_PLACES];
        private final int[] lengths = new int[TABLE_COUNT];

        Tables() {
            for (int t = 0; t < TABLE_COUNT; t++) {
                lengths[t] = MISSING;
            }
        }

        boolean has(int t) {
            return t >= 0 && t < TABLE_COUNT;
        }

        int lengthOf(int t) {
            return has(t) ? lengths[t] : MISSING;
        }

        boolean isMissing(int t) {
            return lengthOf(t) == MISSING;
        }

        boolean hasPlace(int t, int i) {
            return i >= 0 && i < lengthOf(t);
        }

        void renew(int t, int n) {
            if (has(t)) {
                lengths[t] = n;
                for (int i = 0; i < MOST_PLACES; i++) {
                    places[t][i] = 0;
                }
            }
        }

        void put(int t, int i, int v) {
            if (hasPlace(t, i)) {
                places[t][i] = v;
            }
        }

        int at(int t, int i) {
            return hasPlace(t, i) ? places[t][i] : 0;
        }
    }

    /** The presets: the knobs of all modules that there were. */
    private static final class Presets {
        private final int[][] knobs = new int[PRESET_COUNT][MOST_MODULES * KNOB_COUNT];
        private final int[] sizes = new int[PRESET_COUNT];

        Presets() {
            for (int p = 0; p < PRESET_COUNT; p++) {
                sizes[p] = NEVER_KEPT;
            }
        }

        boolean has(int p) {
            return p >= 0 && p < PRESET_COUNT;
        }

        boolean isUnused(int p) {
            return !has(p) || sizes[p] == NEVER_KEPT;
        }

        int store(int p, Rack rack) {
            if (!has(p)) {
                return -1;
            }
            for (int m = 0; m < rack.size; m++) {
                Unit unit = rack.at(m);
                if (unit != null) {
                    System.arraycopy(unit.knobs, 0, knobs[p], m * KNOB_COUNT, KNOB_COUNT);
                }
            }
            sizes[p] = rack.size;
            return rack.size;
        }

        int restore(int p, Rack rack) {
            if (isUnused(p)) {
                return -2;
            }
            for (int m = 0; m < sizes[p]; m++) {
                Unit unit = rack.at(m);
                if (unit != null) {
                    System.arraycopy(knobs[p], m * KNOB_COUNT, unit.knobs, 0, KNOB_COUNT);
                }
            }
            return sizes[p];
        }
    }

    /** The takes, numbered from 1. */
    private static final class Takes {
        int size;
        private final Row[] rows = new Row[MOST_TAKES];

        boolean isFull() {
            return size >= MOST_TAKES;
        }

        /** Called only while there is room. */
        int add(Row given) {
            rows[size] = given;
            size++;
            return size;
        }

        Row at(int t) {
            return t >= 1 && t <= size ? rows[t - 1] : null;
        }
    }

    /** How the modules were ahead of the latest blocks. */
    private static final class History {
        int done;
        int reach;
        private final Rack rack;
        private int slot;

        History(Rack rack) {
            this.rack = rack;
        }

        void remember() {
            for (int m = 0; m < rack.size; m++) {
                Unit unit = rack.at(m);
                if (unit != null) {
                    unit.remember(slot);
                }
            }
        }

        void advance() {
            slot = (slot + 1) % PAST_SLOTS;
            reach = Math.min(MOST_BACK, reach + 1);
            done++;
        }

        void undo() {
            for (int m = 0; m < rack.size; m++) {
                Unit unit = rack.at(m);
                if (unit != null) {
                    unit.becomeAsIn(slot);
                }
            }
        }

        /** Called only with n no more than reach. */
        void goBack(int n) {
            slot = Math.floorMod(slot - n, PAST_SLOTS);
            reach -= n;
            done -= n;
            undo();
        }
    }

    /** The latest block: the work of its modules, its TRACE and its FINDING. */
    private static final class Block {
        int found;
        int foundModule;
        int foundSample;
        private final Rack rack;
        private final Tables tables;
        private final int[] marks = new int[2 * MOST_MODULES];
        private int markCount;
        private int samples;

        Block(Rack rack, Tables tables) {
            this.rack = rack;
            this.tables = tables;
        }

        int markAt(int i) {
            return i >= 0 && i < markCount ? marks[i] : 0;
        }

        int perform(int n) {
            samples = n;
            found = NO_FINDING;
            markCount = 0;
            for (int i = 0; i < rack.size && found == NO_FINDING; i++) {
                Unit unit = rack.at(rack.inLine(i));
                if (unit != null) {
                    mark(unit.number + 1);
                    foundModule = unit.number;
                    unit.now.gives = newRowOf(unit);
                }
            }
            closeAll();
            if (found == NO_FINDING) {
                finish();
            }
            return found;
        }

        private void mark(int entry) {
            if (markCount < marks.length) {
                marks[markCount] = entry;
                markCount++;
            }
        }

        private void closeAll() {
            for (int i = markCount - 1; i >= 0; i--) {
                mark(-marks[i]);
            }
        }

        /** Feeds the DELAYS; what a module gives no longer changes here, so their order is free. */
        private void finish() {
            for (int m = 0; m < rack.size; m++) {
                Unit unit = rack.at(m);
                if (unit != null) {
                    unit.now.knobBefore = unit.knobs[0];
                    if (unit.kind == DELAY) {
                        unit.now.feed(rowAt(unit, 0));
                    }
                }
            }
        }

        private Row newRowOf(Unit unit) {
            switch (unit.kind) {
                case SOURCE:
                    return playTable(unit);
                case SHAPE:
                case FILTER:
                case SLOW:
                case LATE:
                    return shape(unit);
                case MIX:
                    return mix(unit);
                case DELAY:
                    return unit.now.fedAgo(unit.knobs[0]);
                case GATE:
                    return openGate(unit);
                case TURN:
                    return turn(unit);
                case SWITCH:
                    return passOn(unit);
                default:
                    return average(unit);
            }
        }

        /** Answers null, which stands for the row that a failing module does not give. */
        private Row fail(int finding, int sample) {
            found = finding;
            foundSample = sample;
            return null;
        }

        private Row rowAt(Unit unit, int in) {
            return rack.givenBy(unit.cordOf(in));
        }

        private Row wantedRow(Unit unit, int in, int kind) {
            if (unit.cordOf(in) == NOWHERE) {
                return fail(LEADS_NOWHERE, AT_NO_SAMPLE);
            }
            Row given = rowAt(unit, in);
            if (given == null) {
                return fail(NOTHING_GIVEN, AT_NO_SAMPLE);
            }
            if (kind != ANY_KIND && given.kind != kind) {
                return fail(WRONG_KIND, AT_NO_SAMPLE);
            }
            return given;
        }

        private boolean endsAhead(Row given, int k) {
            if (given.has(k)) {
                return false;
            }
            fail(NOT_SO_LONG, k);
            return true;
        }

        private Row playTable(Unit unit) {
            int t = unit.knobs[0];
            if (tables.isMissing(t)) {
                return fail(NOTHING_GIVEN, AT_NO_SAMPLE);
            }
            int places = tables.lengthOf(t);
            Row made = new Row(unit.rowKind, samples);
            for (int k = 0; k < samples; k++) {
                if (places <= 0) {
                    return fail(ZERO_DIVISOR, k);
                }
                if (!tables.hasPlace(t, unit.now.place)) {
                    return fail(NOT_SO_LONG, k);
                }
                putFromTable(unit, made, k, tables.at(t, unit.now.place));
                unit.now.place = Math.floorMod(unit.now.place + unit.knobs[1], places);
            }
            return made;
        }

        private void putFromTable(Unit unit, Row made, int k, int v) {
            if (made.isFloating() && v == LEAST_INT) {
                made.putNoNumber(k);
            } else {
                putWhole(unit, made, k, v);
            }
        }

        private void putWhole(Unit unit, Row made, int k, int v) {
            switch (made.kind) {
                case GATES:
                    made.put(k, v > 0 ? 1 : 0);
                    break;
                case SHORTS:
                    made.put(k, unit.now.heldWithin(LEAST_SHORT, MOST_SHORT, v));
                    break;
                case INTS:
                    made.put(k, v);
                    break;
                default:
                    made.put(k, heldFloating(v / 256.0));
                    break;
            }
        }

        private Row shape(Unit unit) {
            Row given = wantedRow(unit, 0, DOUBLES);
            if (given == null) {
                return null;
            }
            Row made = new Row(DOUBLES, samples);
            for (int k = 0; k < samples; k++) {
                if (endsAhead(given, k)) {
                    return null;
                }
                if (given.lacksNumberAt(k)) {
                    made.putNoNumber(k);
                } else {
                    made.put(k, shapedSample(unit, k, given.valueAt(k)));
                }
            }
            return made;
        }

        private double shapedSample(Unit unit, int k, double x) {
            State now = unit.now;
            double y = heldFloating(gainAt(unit, k) * x);
            if (unit.kind == SHAPE) {
                return y;
            }
            double z = heldFloating(y + now.kept * (unit.knobs[1] / 8.0));
            now.kept = z;
            if (unit.kind != LATE) {
                return z;
            }
            double late = heldFloating(z + now.old);
            now.old = heldFloating(z * (unit.knobs[2] / 8.0));
            return late;
        }

        /** KNOB 0 as it comes from what it was; a block's samples are 1 or more. */
        private double gainAt(Unit unit, int k) {
            int before = unit.now.knobBefore;
            double way = (unit.knobs[0] - before) * (k + 1);
            return (before + way / samples) / 8;
        }

        private Row mix(Unit unit) {
            boolean any = false;
            for (int in = 0; in < unit.inCount(); in++) {
                Row given = rowAt(unit, in);
                if (given != null && given.kind != INTS) {
                    return fail(WRONG_KIND, AT_NO_SAMPLE);
                }
                any = any || given != null;
            }
            if (!any) {
                return null;
            }
            Row made = new Row(INTS, samples);
            for (int k = 0; k < samples && found == NO_FINDING; k++) {
                made.put(k, unit.now.heldWithin(LEAST_INT, MOST_INT, sumAt(unit, k)));
            }
            return made;
        }

        private long sumAt(Unit unit, int k) {
            long sum = 0;
            for (int in = 0; in < unit.inCount(); in++) {
                Row given = rowAt(unit, in);
                if (given != null && !endsAhead(given, k)) {
                    sum += (long) given.valueAt(k);
                }
            }
            return sum;
        }

        private Row openGate(Unit unit) {
            Row given = wantedRow(unit, 0, DOUBLES);
            if (given == null) {
                return null;
            }
            Row made = new Row(GATES, samples);
            for (int k = 0; k < samples; k++) {
                if (endsAhead(given, k)) {
                    return null;
                }
                if (!given.lacksNumberAt(k)) {
                    unit.now.up = upAfter(unit, given.valueAt(k));
                }
                made.put(k, unit.now.up);
            }
            return made;
        }

        private int upAfter(Unit unit, double x) {
            if (x >= unit.knobs[0] / 8.0) {
                return 1;
            }
            return x <= unit.knobs[1] / 8.0 ? 0 : unit.now.up;
        }

        private Row turn(Unit unit) {
            Row given = wantedRow(unit, 0, ANY_KIND);
            if (given == null) {
                return null;
            }
            Row made = new Row(unit.rowKind, samples);
            for (int k = 0; k < samples; k++) {
                if (endsAhead(given, k)) {
                    return null;
                }
                if (given.isFloating()) {
                    putFloating(unit, made, k, given);
                } else {
                    putWhole(unit, made, k, (int) given.valueAt(k));
                }
            }
            return made;
        }

        /** NO NUMBER has the value 0, which is what the kinds that are not floating want of it. */
        private void putFloating(Unit unit, Row made, int k, Row given) {
            double x = given.valueAt(k);
            if (made.isFloating() && given.lacksNumberAt(k)) {
                made.putNoNumber(k);
            } else if (made.isFloating()) {
                made.put(k, x);
            } else if (made.kind == GATES) {
                made.put(k, x > 0 ? 1 : 0);
            } else {
                putWhole(unit, made, k, (int) (x * 256));
            }
        }

        private Row passOn(Unit unit) {
            Row given = wantedRow(unit, 0, ANY_KIND);
            if (given == null) {
                return null;
            }
            Row gate = wantedRow(unit, 1, GATES);
            if (gate == null || endsAhead(gate, samples - 1)) {
                return null;
            }
            return gate.valueAt(samples - 1) == 1 ? given : null;
        }

        private Row average(Unit unit) {
            Row given = wantedRow(unit, 0, INTS);
            if (given == null) {
                return null;
            }
            Row made = new Row(INTS, samples);
            long sum = 0;
            for (int k = 0; k < samples; k++) {
                if (endsAhead(given, k)) {
                    return null;
                }
                sum += (long) given.valueAt(k);
                int divisor = k + unit.knobs[0];
                if (divisor == 0) {
                    return fail(ZERO_DIVISOR, k);
                }
                made.put(k, unit.now.heldWithin(LEAST_INT, MOST_INT, sum / divisor));
            }
            return made;
        }
    }
}
