/**
 * Steps packed side by side into bundles, done one after the other, in bundles, and in a loop in
 * which rounds overlap. ../shared/DOC.md tells what each call answers.
 */
public final class BuntingBundles {
    public static final int NONE = -1;
    public static final int FREE = -99;
    public static final int SET = 0;
    public static final int ADD = 1;
    public static final int LESS = 2;
    public static final int TIMES = 3;
    public static final int GREATER = 4;
    public static final int LOAD = 5;
    public static final int STORE = 6;

    private static final int MOST_STEPS = 20;
    private static final int REGISTERS = 12;
    private static final int CELLS = 12;
    /** Registers and cells stand in one row: first the registers, behind them the cells. */
    private static final int PLACES = REGISTERS + CELLS;
    private static final int UNITS = 3;
    private static final int GREATEST_NUMBER = 99;
    private static final int MOST_SLOTS = 4;
    private static final int MOST_LATENCY = 6;
    private static final int MOST_DELAY = 3;
    private static final int BUNDLES = 200;
    private static final int LAST_BEGINNING = 205;
    private static final int MOST_ROUNDS = 20;
    private static final int MOST_SAVED = 5;
    private static final int MOST_SIGNS = 60;
    private static final int FIRST_CODE = 33;
    private static final int LAST_CODE = 126;
    /** No separation is above 6, so a circle of 20 steps asks for no more than 20 times 6. */
    private static final int MOST_CIRCLE_BEAT = MOST_STEPS * MOST_LATENCY;
    /**
     * With a beat of 330 every loop can be laid: a step starts at most 6 behind an earlier one and
     * passes at most one taken slot for each of those and the jump, so none comes behind 324.
     */
    private static final int MOST_BEAT = 340;

    private final State state = new State();
    private final History history = new History();
    private final State snapshot = new State();
    private boolean hasSnapshot;
    private final Text text = new Text();
    private final Links links = new Links();
    private boolean linksAreFresh;
    private final Packer packer = new Packer();
    private final Circles circles = new Circles();
    private final LoopPlan loopPlan = new LoopPlan();
    private boolean loopIsFresh;
    private final Runner runner = new Runner();
    private final int[] orderValues = new int[PLACES];
    private final int[] bundleValues = new int[PLACES];
    private final int[] loopValues = new int[PLACES];
    private final int[] roundValues = new int[PLACES];

    public BuntingBundles() {
    }

    // ---- steps

    public int insert(int place, int kind, int target, int one, int two, int number)
            throws IndexOutOfBoundsException, IllegalArgumentException, IllegalStateException {
        if (place < 0 || place > state.count || !isRegister(target) || !isRegister(one)
                || !isRegister(two)) {
            throw new IndexOutOfBoundsException("no such place or register");
        }
        if (kind < SET || kind > STORE || number < -GREATEST_NUMBER || number > GREATEST_NUMBER) {
            throw new IllegalArgumentException("kind or number out of range");
        }
        if (state.count >= MOST_STEPS) {
            throw new IllegalStateException("there are 20 steps");
        }
        save();
        state.putIn(place, kind, target, one, two, number);
        return state.count;
    }

    public int remove(int step) throws IndexOutOfBoundsException {
        checkStep(step);
        save();
        state.takeAway(step);
        return state.count;
    }

    public int exchange(int step, int other) throws IndexOutOfBoundsException {
        checkStep(step);
        checkStep(other);
        save();
        state.swapSteps(step, other);
        return freshLinks().nearOf(Math.min(step, other), Math.max(step, other));
    }

    public int setRegister(int register, int value) throws IndexOutOfBoundsException {
        checkRegister(register);
        save();
        return state.changeFirst(register, value);
    }

    public int setCell(int cell, int value) throws IndexOutOfBoundsException {
        checkCell(cell);
        save();
        return state.changeFirst(REGISTERS + cell, value);
    }

    // ---- units, the jump

    public int setSlots(int unit, int slots)
            throws IndexOutOfBoundsException, IllegalArgumentException {
        checkUnit(unit);
        if (slots < 1 || slots > MOST_SLOTS) {
            throw new IllegalArgumentException("slots out of range");
        }
        save();
        int previous = state.slotRow[unit];
        state.slotRow[unit] = slots;
        return previous;
    }

    public int setLatency(int unit, int latency)
            throws IndexOutOfBoundsException, IllegalArgumentException {
        checkUnit(unit);
        if (latency < 1 || latency > MOST_LATENCY) {
            throw new IllegalArgumentException("latency out of range");
        }
        save();
        int previous = state.latencyRow[unit];
        state.latencyRow[unit] = latency;
        return previous;
    }

    public int setDelay(int delay) throws IllegalArgumentException {
        if (delay < 0 || delay > MOST_DELAY) {
            throw new IllegalArgumentException("delay out of range");
        }
        save();
        int previous = state.jumpDelay;
        state.jumpDelay = delay;
        return previous;
    }

    // ---- bundles

    public int lay(int step, int bundle)
            throws IndexOutOfBoundsException, IllegalArgumentException {
        checkStep(step);
        checkBundle(bundle);
        save();
        int previous = state.laidIn[step];
        state.laidIn[step] = bundle;
        return previous;
    }

    public int takeOut(int step) throws IndexOutOfBoundsException, IllegalStateException {
        checkStep(step);
        int previous = state.laidIn[step];
        if (previous == NONE) {
            throw new IllegalStateException("the step is laid in none");
        }
        save();
        state.laidIn[step] = NONE;
        return previous;
    }

    public int pack() {
        packer.makePlan(state, freshLinks());
        save();
        System.arraycopy(packer.plan, 0, state.laidIn, 0, state.count);
        return spanOf(state.laidIn, state.count);
    }

    // ---- texts

    public int append(int code) throws IllegalArgumentException, IllegalStateException {
        if (code < FIRST_CODE || code > LAST_CODE) {
            throw new IllegalArgumentException("code out of range");
        }
        if (text.length >= MOST_SIGNS) {
            throw new IllegalStateException("the buffer is full");
        }
        text.addSign(code);
        return text.length;
    }

    public int clearBuffer() {
        int previous = text.length;
        text.length = 0;
        return previous;
    }

    public int firstError() {
        return text.firstBad();
    }

    public int addAll() throws IllegalArgumentException, IllegalStateException {
        if (!text.isWhole()) {
            throw new IllegalArgumentException("not complete steps as a text");
        }
        if (state.count + text.countOfSteps() > MOST_STEPS) {
            throw new IllegalStateException("more than 20 steps");
        }
        save();
        text.putInto(state);
        text.length = 0;
        return state.count;
    }

    // ---- undo, the snapshot

    public int undo() throws IllegalStateException {
        if (history.size == 0) {
            throw new IllegalStateException("no saved state");
        }
        history.popInto(state);
        spoil();
        return history.size;
    }

    public int savedStates() {
        return history.size;
    }

    public int keep() {
        snapshot.copyFrom(state);
        hasSnapshot = true;
        return state.count;
    }

    public int goBack() throws IllegalStateException {
        if (!hasSnapshot) {
            throw new IllegalStateException("no snapshot");
        }
        save();
        state.copyFrom(snapshot);
        return state.count;
    }

    // ---- steps as they are; nothing is changed

    public int steps() {
        return state.count;
    }

    public int kindOf(int step) throws IndexOutOfBoundsException {
        checkStep(step);
        return state.kinds[step];
    }

    public int readBy(int step) throws IndexOutOfBoundsException {
        checkStep(step);
        return state.readsOf(step);
    }

    public int writtenBy(int step) throws IndexOutOfBoundsException {
        checkStep(step);
        return state.writesOf(step);
    }

    public int latencyOf(int step) throws IndexOutOfBoundsException {
        checkStep(step);
        return state.lengthOf(step);
    }

    public int separation(int step, int other) throws IndexOutOfBoundsException {
        checkStep(step);
        checkStep(other);
        return freshLinks().nearOf(step, other);
    }

    public int carried(int step, int other) throws IndexOutOfBoundsException {
        checkStep(step);
        checkStep(other);
        return freshLinks().overOf(step, other);
    }

    public int heightOf(int step) throws IndexOutOfBoundsException {
        checkStep(step);
        return freshLinks().heights[step];
    }

    public int earliestOf(int step) throws IndexOutOfBoundsException {
        checkStep(step);
        return freshLinks().earliest[step];
    }

    public int spanByHeights() {
        return freshLinks().greatestHeight();
    }

    public int spanByEarliest() {
        return freshLinks().lastResult();
    }

    // ---- bundles as they are; nothing is changed

    public int bundleOf(int step) throws IndexOutOfBoundsException {
        checkStep(step);
        return state.laidIn[step];
    }

    public int stepsIn(int bundle) throws IllegalArgumentException {
        checkBundle(bundle);
        return state.setLaidIn(bundle);
    }

    public int bundles() {
        return spanOf(state.laidIn, state.count);
    }

    public int whyWrong() {
        if (state.lowestNotLaid() != NONE) {
            return 1;
        }
        if (state.lowestCrowded() != NONE) {
            return 2;
        }
        return freshLinks().lowestTooEarly(state) != NONE ? 3 : 0;
    }

    public int wrongAt() {
        int step = state.lowestNotLaid();
        if (step != NONE) {
            return step;
        }
        int bundle = state.lowestCrowded();
        if (bundle != NONE) {
            return bundle;
        }
        return freshLinks().lowestTooEarly(state);
    }

    public int wouldPack() {
        packer.makePlan(state, freshLinks());
        return spanOf(packer.plan, state.count);
    }

    public double filledShare() {
        int all = spanOf(state.laidIn, state.count)
                * (state.slotRow[0] + state.slotRow[1] + state.slotRow[2]);
        if (all == 0) {
            return 0.0;
        }
        return (double) state.countLaid() / all;
    }

    // ---- what steps do; nothing is changed

    public int registerInOrder(int register) throws IndexOutOfBoundsException {
        checkRegister(register);
        runner.doInOrder(state, 1, orderValues);
        return orderValues[register];
    }

    public int registerInBundles(int register) throws IndexOutOfBoundsException {
        checkRegister(register);
        doBundles(LAST_BEGINNING);
        return bundleValues[register];
    }

    public int cellInOrder(int cell) throws IndexOutOfBoundsException {
        checkCell(cell);
        runner.doInOrder(state, 1, orderValues);
        return orderValues[REGISTERS + cell];
    }

    public int cellInBundles(int cell) throws IndexOutOfBoundsException {
        checkCell(cell);
        doBundles(LAST_BEGINNING);
        return bundleValues[REGISTERS + cell];
    }

    public int registerAt(int bundle, int register)
            throws IndexOutOfBoundsException, IllegalArgumentException {
        checkRegister(register);
        if (bundle < 0 || bundle > LAST_BEGINNING) {
            throw new IllegalArgumentException("bundle out of range");
        }
        doBundles(bundle);
        return bundleValues[register];
    }

    public boolean doesAgree() {
        runner.doInOrder(state, 1, orderValues);
        doBundles(LAST_BEGINNING);
        return areAlike(orderValues, bundleValues);
    }

    // ---- the loop; nothing is changed

    public int beatByUnits() {
        return state.unitBeat();
    }

    public int beatByCircles() {
        return freshLoop().circleBeat;
    }

    public int beatByRounds() {
        return circles.leastByPushes(freshLinks());
    }

    public int beat() {
        return freshLoop().chosen;
    }

    public int loopBundleOf(int step) throws IndexOutOfBoundsException {
        checkStep(step);
        return freshLoop().starts[step];
    }

    public int jumpBundle() {
        return freshLoop().chosen - 1 - state.jumpDelay;
    }

    public int overlap() {
        return overlapIn(freshLoop());
    }

    public int loopBundles(int rounds) throws IllegalArgumentException {
        checkRounds(rounds);
        return spanIn(freshLoop(), rounds);
    }

    public int registerInLoop(int rounds, int register)
            throws IndexOutOfBoundsException, IllegalArgumentException {
        checkRegister(register);
        checkRounds(rounds);
        doLoop(freshLoop(), rounds);
        return loopValues[register];
    }

    public int registerInRounds(int rounds, int register)
            throws IndexOutOfBoundsException, IllegalArgumentException {
        checkRegister(register);
        checkRounds(rounds);
        runner.doInOrder(state, rounds, roundValues);
        return roundValues[register];
    }

    public int cellInLoop(int rounds, int cell)
            throws IndexOutOfBoundsException, IllegalArgumentException {
        checkCell(cell);
        checkRounds(rounds);
        doLoop(freshLoop(), rounds);
        return loopValues[REGISTERS + cell];
    }

    /** What is dear is told once, here, and handed on. */
    public long digest() {
        Links now = freshLinks();
        LoopPlan plan = freshLoop();
        runner.doInOrder(state, 1, orderValues);
        doBundles(LAST_BEGINNING);
        long hash = mixed(4643L, state.count);
        hash = mixed(hash, now.greatestHeight());
        hash = mixed(hash, now.lastResult());
        hash = mixed(hash, bundles());
        hash = mixed(hash, whyWrong());
        hash = mixed(hash, wrongAt());
        hash = mixed(hash, wouldPack());
        hash = mixed(hash, areAlike(orderValues, bundleValues) ? 1 : 0);
        hash = mixed(hash, beatByUnits());
        hash = mixed(hash, plan.circleBeat);
        hash = mixed(hash, beatByRounds());
        hash = mixed(hash, plan.chosen);
        hash = mixed(hash, plan.chosen - 1 - state.jumpDelay);
        hash = mixed(hash, overlapIn(plan));
        for (int step = 0; step < state.count; step++) {
            hash = hashOfStep(hash, step, now, plan);
        }
        int span = bundles();
        for (int bundle = 0; bundle < span; bundle++) {
            hash = mixed(hash, state.setLaidIn(bundle));
        }
        doLoop(plan, 3);
        runner.doInOrder(state, 3, roundValues);
        hash = hashOfRegisters(hash);
        doLoop(plan, 2);
        hash = hashOfCells(hash);
        hash = mixed(hash, spanIn(plan, 4));
        hash = mixed(hash, history.size);
        hash = mixed(hash, bitsOf(filledShare()));
        hash = mixed(hash, hasSnapshot ? 1 : 0);
        return text.hashOfSigns(hash);
    }

    // ---- parts of the digest

    private static long mixed(long hash, long value) {
        return 31 * hash + value;
    }

    private long hashOfStep(long start, int step, Links now, LoopPlan plan) {
        long hash = mixed(start, state.kinds[step]);
        hash = mixed(hash, state.readsOf(step));
        hash = mixed(hash, state.writesOf(step));
        hash = mixed(hash, state.lengthOf(step));
        hash = mixed(hash, now.heights[step]);
        hash = mixed(hash, now.earliest[step]);
        hash = mixed(hash, state.laidIn[step]);
        hash = mixed(hash, plan.starts[step]);
        for (int other = 0; other < state.count; other++) {
            hash = mixed(hash, now.nearOf(step, other));
            hash = mixed(hash, now.overOf(step, other));
        }
        return hash;
    }

    /** The rows of values are filled already, here and for the cells. */
    private long hashOfRegisters(long start) {
        long hash = start;
        for (int register = 0; register < REGISTERS; register++) {
            hash = mixed(hash, orderValues[register]);
            hash = mixed(hash, bundleValues[register]);
            hash = mixed(hash, loopValues[register]);
            hash = mixed(hash, roundValues[register]);
        }
        return hash;
    }

    private long hashOfCells(long start) {
        long hash = start;
        for (int place = REGISTERS; place < PLACES; place++) {
            hash = mixed(hash, orderValues[place]);
            hash = mixed(hash, bundleValues[place]);
            hash = mixed(hash, loopValues[place]);
        }
        return hash;
    }

    /** The bits of a share, put together by hand: the language leaves no call that tells them. */
    private static long bitsOf(double share) {
        if (!(share > 0.0)) {
            return 0L;
        }
        double rest = share;
        long exponent = 1023;
        for (int turn = 0; turn < 1100 && rest >= 2.0; turn++) {
            rest = rest / 2.0;
            exponent++;
        }
        for (int turn = 0; turn < 1100 && rest < 1.0; turn++) {
            rest = rest * 2.0;
            exponent--;
        }
        return (exponent << 52) + (long) ((rest - 1.0) * 4503599627370496.0);
    }

    // ---- helpers of the face

    private static boolean isRegister(int register) {
        return register >= 0 && register < REGISTERS;
    }

    private static void checkRegister(int register) throws IndexOutOfBoundsException {
        if (!isRegister(register)) {
            throw new IndexOutOfBoundsException("no such register");
        }
    }

    private static void checkCell(int cell) throws IndexOutOfBoundsException {
        if (cell < 0 || cell >= CELLS) {
            throw new IndexOutOfBoundsException("no such cell");
        }
    }

    private static void checkUnit(int unit) throws IndexOutOfBoundsException {
        if (unit < 0 || unit >= UNITS) {
            throw new IndexOutOfBoundsException("no such unit");
        }
    }

    private static void checkBundle(int bundle) throws IllegalArgumentException {
        if (bundle < 0 || bundle >= BUNDLES) {
            throw new IllegalArgumentException("bundle out of range");
        }
    }

    private static void checkRounds(int rounds) throws IllegalArgumentException {
        if (rounds < 0 || rounds > MOST_ROUNDS) {
            throw new IllegalArgumentException("rounds out of range");
        }
    }

    private void checkStep(int step) throws IndexOutOfBoundsException {
        if (step < 0 || step >= state.count) {
            throw new IndexOutOfBoundsException("no such step");
        }
    }

    /** Every undoable call comes through here just before its change, so what was told is old. */
    private void save() {
        history.push(state);
        spoil();
    }

    private void spoil() {
        linksAreFresh = false;
        loopIsFresh = false;
    }

    private Links freshLinks() {
        if (!linksAreFresh) {
            links.measure(state);
            linksAreFresh = true;
        }
        return links;
    }

    private LoopPlan freshLoop() {
        if (!loopIsFresh) {
            Links now = freshLinks();
            loopPlan.makePlan(state, now, circles.leastByTable(now));
            loopIsFresh = true;
        }
        return loopPlan;
    }

    /** One round alone: whatever the beat, no second round begins. */
    private void doBundles(int end) {
        runner.doInTime(state, state.laidIn, 1, 1, end, bundleValues);
    }

    private void doLoop(LoopPlan plan, int rounds) {
        int end = spanIn(plan, rounds) + MOST_LATENCY;
        runner.doInTime(state, plan.starts, plan.chosen, rounds, end, loopValues);
    }

    private static boolean areAlike(int[] values, int[] others) {
        for (int place = 0; place < PLACES; place++) {
            if (values[place] != others[place]) {
                return false;
            }
        }
        return true;
    }

    private int overlapIn(LoopPlan plan) {
        if (state.count == 0 || plan.chosen < 1) {
            return 0;
        }
        return (spanOf(plan.starts, state.count) - 1) / plan.chosen + 1;
    }

    private int spanIn(LoopPlan plan, int rounds) {
        if (state.count == 0 || rounds == 0) {
            return 0;
        }
        return spanOf(plan.starts, state.count) + (rounds - 1) * plan.chosen;
    }

    /** One more than the greatest bundle in a row; NONE is the least that stands there. */
    private static int spanOf(int[] row, int count) {
        int greatest = NONE;
        for (int step = 0; step < count && step < row.length; step++) {
            greatest = Math.max(greatest, row[step]);
        }
        return greatest + 1;
    }

    // ---- what undo brings back

    private static final class State {
        int count;
        final int[] kinds = new int[MOST_STEPS];
        final int[] targets = new int[MOST_STEPS];
        final int[] ones = new int[MOST_STEPS];
        final int[] twos = new int[MOST_STEPS];
        final int[] numbers = new int[MOST_STEPS];
        final int[] laidIn = new int[MOST_STEPS];
        final int[] firsts = new int[PLACES];
        final int[] slotRow = {2, 1, 1};
        final int[] latencyRow = {1, 3, 2};
        int jumpDelay = 1;

        void copyFrom(State other) {
            count = other.count;
            System.arraycopy(other.kinds, 0, kinds, 0, MOST_STEPS);
            System.arraycopy(other.targets, 0, targets, 0, MOST_STEPS);
            System.arraycopy(other.ones, 0, ones, 0, MOST_STEPS);
            System.arraycopy(other.twos, 0, twos, 0, MOST_STEPS);
            System.arraycopy(other.numbers, 0, numbers, 0, MOST_STEPS);
            System.arraycopy(other.laidIn, 0, laidIn, 0, MOST_STEPS);
            System.arraycopy(other.firsts, 0, firsts, 0, PLACES);
            System.arraycopy(other.slotRow, 0, slotRow, 0, UNITS);
            System.arraycopy(other.latencyRow, 0, latencyRow, 0, UNITS);
            jumpDelay = other.jumpDelay;
        }

        void putIn(int place, int kind, int target, int one, int two, int number) {
            if (place < 0 || place > count || count >= MOST_STEPS) {
                return;
            }
            putInRow(kinds, place, kind);
            putInRow(targets, place, target);
            putInRow(ones, place, one);
            putInRow(twos, place, two);
            putInRow(numbers, place, number);
            putInRow(laidIn, place, NONE);
            count++;
        }

        private void putInRow(int[] row, int place, int value) {
            System.arraycopy(row, place, row, place + 1, count - place);
            row[place] = value;
        }

        void takeAway(int step) {
            if (step < 0 || step >= count) {
                return;
            }
            takeFromRow(kinds, step);
            takeFromRow(targets, step);
            takeFromRow(ones, step);
            takeFromRow(twos, step);
            takeFromRow(numbers, step);
            takeFromRow(laidIn, step);
            count--;
        }

        private void takeFromRow(int[] row, int step) {
            System.arraycopy(row, step + 1, row, step, count - 1 - step);
        }

        void swapSteps(int step, int other) {
            if (step < 0 || step >= count || other < 0 || other >= count) {
                return;
            }
            swapInRow(kinds, step, other);
            swapInRow(targets, step, other);
            swapInRow(ones, step, other);
            swapInRow(twos, step, other);
            swapInRow(numbers, step, other);
            swapInRow(laidIn, step, other);
        }

        private static void swapInRow(int[] row, int step, int other) {
            int value = row[step];
            row[step] = row[other];
            row[other] = value;
        }

        int changeFirst(int place, int value) {
            if (place < 0 || place >= PLACES) {
                return 0;
            }
            int previous = firsts[place];
            firsts[place] = value;
            return previous;
        }

        boolean usesCells(int step) {
            return kinds[step] == LOAD || kinds[step] == STORE;
        }

        int unitOf(int step) {
            if (kinds[step] == TIMES) {
                return 1;
            }
            return usesCells(step) ? 2 : 0;
        }

        int lengthOf(int step) {
            return kinds[step] == STORE ? 1 : latencyRow[unitOf(step)];
        }

        int readsOf(int step) {
            if (kinds[step] == SET) {
                return 0;
            }
            if (kinds[step] == LOAD) {
                return 1 << ones[step];
            }
            return 1 << ones[step] | 1 << twos[step];
        }

        int writesOf(int step) {
            return kinds[step] == STORE ? NONE : targets[step];
        }

        int setLaidIn(int bundle) {
            int set = 0;
            for (int step = 0; step < count; step++) {
                if (laidIn[step] == bundle) {
                    set |= 1 << step;
                }
            }
            return set;
        }

        int countLaid() {
            int laid = 0;
            for (int step = 0; step < count; step++) {
                if (laidIn[step] != NONE) {
                    laid++;
                }
            }
            return laid;
        }

        int lowestNotLaid() {
            for (int step = 0; step < count; step++) {
                if (laidIn[step] == NONE) {
                    return step;
                }
            }
            return NONE;
        }

        /** The lowest bundle with more steps of a unit than slots, looked for from its steps. */
        int lowestCrowded() {
            int lowest = NONE;
            for (int step = 0; step < count; step++) {
                int bundle = laidIn[step];
                if (bundle != NONE && (lowest == NONE || bundle < lowest)
                        && countBeside(step) > slotRow[unitOf(step)]) {
                    lowest = bundle;
                }
            }
            return lowest;
        }

        private int countBeside(int step) {
            int beside = 0;
            for (int other = 0; other < count; other++) {
                if (laidIn[other] == laidIn[step] && unitOf(other) == unitOf(step)) {
                    beside++;
                }
            }
            return beside;
        }

        int unitBeat() {
            int least = 1;
            for (int unit = 0; unit < UNITS; unit++) {
                int wanted = unit == 0 ? 1 : 0;
                for (int step = 0; step < count; step++) {
                    wanted += unitOf(step) == unit ? 1 : 0;
                }
                int slots = Math.max(1, slotRow[unit]);
                least = Math.max(least, (wanted + slots - 1) / slots);
            }
            return least;
        }
    }

    // ---- saved states

    private static final class History {
        private final State[] rows = new State[MOST_SAVED];
        int size;

        History() {
            for (int row = 0; row < MOST_SAVED; row++) {
                rows[row] = new State();
            }
        }

        void push(State state) {
            if (size >= MOST_SAVED) {
                dropOldest();
            }
            State row = rows[size];
            if (row != null) {
                row.copyFrom(state);
            }
            size++;
        }

        /** The dropped state's rows are used again behind the others, so none is made anew. */
        private void dropOldest() {
            State oldest = rows[0];
            for (int row = 1; row < MOST_SAVED; row++) {
                rows[row - 1] = rows[row];
            }
            rows[MOST_SAVED - 1] = oldest;
            size = MOST_SAVED - 1;
        }

        void popInto(State state) {
            if (size <= 0 || size > MOST_SAVED) {
                return;
            }
            size--;
            State row = rows[size];
            if (row != null) {
                state.copyFrom(row);
            }
        }
    }

    // ---- what hangs on what

    private static final class Links {
        int count;
        private final int[] reads = new int[MOST_STEPS];
        private final int[] writes = new int[MOST_STEPS];
        private final int[] lengths = new int[MOST_STEPS];
        private final int[] near = new int[MOST_STEPS * MOST_STEPS];
        private final int[] over = new int[MOST_STEPS * MOST_STEPS];
        final int[] heights = new int[MOST_STEPS];
        final int[] earliest = new int[MOST_STEPS];

        void measure(State state) {
            count = state.count;
            for (int step = 0; step < count; step++) {
                reads[step] = state.readsOf(step);
                writes[step] = state.writesOf(step);
                lengths[step] = state.lengthOf(step);
            }
            for (int i = 0; i < count; i++) {
                for (int j = 0; j < count; j++) {
                    near[i * MOST_STEPS + j] = i < j ? nearPair(state, i, j) : FREE;
                    over[i * MOST_STEPS + j] = overPair(state, i, j);
                }
            }
            measureHeights();
            measureEarliest();
        }

        /** The separation of j on i in one round. */
        int nearOf(int i, int j) {
            return i >= 0 && i < j && j < count ? near[i * MOST_STEPS + j] : FREE;
        }

        /** The separation of j on i of the round before. */
        int overOf(int i, int j) {
            return i >= 0 && i < count && j >= 0 && j < count ? over[i * MOST_STEPS + j] : FREE;
        }

        private int nearPair(State state, int i, int j) {
            int greatest = writtenAgain(i, j);
            if (handsOver(i, j) && !isWrittenFrom(i + 1, j, writes[i])) {
                greatest = Math.max(greatest, lengths[i]);
            }
            if (meetInCells(state, i, j) && !areApart(state, i, j)) {
                greatest = Math.max(greatest, state.kinds[i] == LOAD ? 0 : 1);
            }
            return greatest;
        }

        private int overPair(State state, int i, int j) {
            int greatest = writtenAgain(i, j);
            if (handsOver(i, j) && !isWrittenFrom(i + 1, count, writes[i])
                    && !isWrittenFrom(0, j, writes[i])) {
                greatest = Math.max(greatest, lengths[i]);
            }
            if (meetInCells(state, i, j)) {
                greatest = Math.max(greatest, state.kinds[i] == LOAD ? 0 : 1);
            }
            return greatest;
        }

        /** What j writes must not come ahead of what i reads or writes there. */
        private int writtenAgain(int i, int j) {
            int greatest = FREE;
            if (writes[j] == NONE) {
                return greatest;
            }
            if ((reads[i] >> writes[j] & 1) == 1) {
                greatest = 1 - lengths[j];
            }
            if (writes[i] == writes[j]) {
                greatest = Math.max(greatest, lengths[i] + 1 - lengths[j]);
            }
            return greatest;
        }

        private boolean handsOver(int i, int j) {
            return writes[i] != NONE && (reads[j] >> writes[i] & 1) == 1;
        }

        private boolean isWrittenFrom(int from, int to, int register) {
            for (int step = from; step < to && step < count; step++) {
                if (writes[step] == register) {
                    return true;
                }
            }
            return false;
        }

        private static boolean meetInCells(State state, int i, int j) {
            return state.usesCells(i) && state.usesCells(j)
                    && (state.kinds[i] == STORE || state.kinds[j] == STORE);
        }

        private boolean areApart(State state, int i, int j) {
            return state.ones[i] == state.ones[j]
                    && !isWrittenFrom(i, j, state.ones[i])
                    && Math.floorMod(state.numbers[i], CELLS)
                            != Math.floorMod(state.numbers[j], CELLS);
        }

        private void measureHeights() {
            for (int i = count - 1; i >= 0; i--) {
                heights[i] = lengths[i];
                for (int j = i + 1; j < count; j++) {
                    int apart = nearOf(i, j);
                    if (apart != FREE) {
                        heights[i] = Math.max(heights[i], apart + heights[j]);
                    }
                }
            }
        }

        private void measureEarliest() {
            for (int j = 0; j < count; j++) {
                earliest[j] = 0;
                for (int i = 0; i < j; i++) {
                    int apart = nearOf(i, j);
                    if (apart != FREE) {
                        earliest[j] = Math.max(earliest[j], earliest[i] + apart);
                    }
                }
            }
        }

        int greatestHeight() {
            int greatest = 0;
            for (int step = 0; step < count; step++) {
                greatest = Math.max(greatest, heights[step]);
            }
            return greatest;
        }

        int lastResult() {
            int last = 0;
            for (int step = 0; step < count; step++) {
                last = Math.max(last, earliest[step] + lengths[step]);
            }
            return last;
        }

        /** The lowest step that comes too early behind one on which it hangs; all are laid. */
        int lowestTooEarly(State state) {
            for (int j = 0; j < count; j++) {
                for (int i = 0; i < j; i++) {
                    int apart = nearOf(i, j);
                    if (apart != FREE && state.laidIn[j] - state.laidIn[i] < apart) {
                        return j;
                    }
                }
            }
            return NONE;
        }
    }

    // ---- packing by heights

    private static final class Packer {
        final int[] plan = new int[MOST_STEPS];
        private final int[] freeSlots = new int[UNITS];

        void makePlan(State state, Links links) {
            for (int step = 0; step < state.count; step++) {
                plan[step] = NONE;
            }
            int laid = 0;
            for (int bundle = 0; bundle < BUNDLES && laid < state.count; bundle++) {
                laid += fillBundle(state, links, bundle);
            }
        }

        private int fillBundle(State state, Links links, int bundle) {
            System.arraycopy(state.slotRow, 0, freeSlots, 0, UNITS);
            int laid = 0;
            for (int turn = 0; turn < state.count; turn++) {
                int best = bestFor(state, links, bundle);
                if (best == NONE) {
                    break;
                }
                plan[best] = bundle;
                freeSlots[state.unitOf(best)]--;
                laid++;
            }
            return laid;
        }

        private int bestFor(State state, Links links, int bundle) {
            int best = NONE;
            for (int step = 0; step < state.count; step++) {
                if (plan[step] == NONE && freeSlots[state.unitOf(step)] > 0
                        && (best == NONE || links.heights[step] > links.heights[best])
                        && isReady(links, step, bundle)) {
                    best = step;
                }
            }
            return best;
        }

        private boolean isReady(Links links, int step, int bundle) {
            for (int ahead = 0; ahead < step; ahead++) {
                int apart = links.nearOf(ahead, step);
                if (apart != FREE && (plan[ahead] == NONE || bundle - plan[ahead] < apart)) {
                    return false;
                }
            }
            return true;
        }
    }

    // ---- the beat by circles

    private static final class Circles {
        private static final int NO_WAY = -1000000;
        private final int[] table = new int[MOST_STEPS * MOST_STEPS];
        private final int[] pushes = new int[MOST_STEPS];

        int leastByTable(Links links) {
            int low = 1;
            int high = MOST_CIRCLE_BEAT;
            for (int turn = 0; turn < MOST_CIRCLE_BEAT && low < high; turn++) {
                int middle = (low + high) / 2;
                if (growsInTable(links, middle)) {
                    low = middle + 1;
                } else {
                    high = middle;
                }
            }
            return low;
        }

        int leastByPushes(Links links) {
            int low = 1;
            int high = MOST_CIRCLE_BEAT;
            for (int turn = 0; turn < MOST_CIRCLE_BEAT && low < high; turn++) {
                int middle = (low + high) / 2;
                if (growsByPushes(links, middle)) {
                    low = middle + 1;
                } else {
                    high = middle;
                }
            }
            return low;
        }

        private static int wayOf(Links links, int i, int j, int beat) {
            int near = links.nearOf(i, j);
            int over = links.overOf(i, j);
            int way = near == FREE ? NO_WAY : near;
            return over == FREE ? way : Math.max(way, over - beat);
        }

        /**
         * The farthest ways by way of more and more steps. It ends with the first circle above 0:
         * going on, its sums would grow beyond all bounds.
         */
        private boolean growsInTable(Links links, int beat) {
            int count = links.count;
            for (int i = 0; i < count; i++) {
                for (int j = 0; j < count; j++) {
                    table[i * MOST_STEPS + j] = wayOf(links, i, j, beat);
                }
            }
            for (int middle = 0; middle < count; middle++) {
                if (hasCircle(count)) {
                    return true;
                }
                goByWayOf(middle, count);
            }
            return hasCircle(count);
        }

        private void goByWayOf(int middle, int count) {
            for (int i = 0; i < count; i++) {
                int first = table[i * MOST_STEPS + middle];
                if (first == NO_WAY) {
                    continue;
                }
                for (int j = 0; j < count; j++) {
                    int second = table[middle * MOST_STEPS + j];
                    if (second != NO_WAY && first + second > table[i * MOST_STEPS + j]) {
                        table[i * MOST_STEPS + j] = first + second;
                    }
                }
            }
        }

        private boolean hasCircle(int count) {
            for (int step = 0; step < count; step++) {
                if (table[step * MOST_STEPS + step] > 0) {
                    return true;
                }
            }
            return false;
        }

        /** Without a circle above 0 no step is pushed any more in as many turns as steps. */
        private boolean growsByPushes(Links links, int beat) {
            for (int step = 0; step < links.count; step++) {
                pushes[step] = 0;
            }
            for (int turn = 0; turn < links.count; turn++) {
                if (!pushAll(links, beat)) {
                    return false;
                }
            }
            return links.count > 0;
        }

        private boolean pushAll(Links links, int beat) {
            boolean moved = false;
            for (int i = 0; i < links.count; i++) {
                for (int j = 0; j < links.count; j++) {
                    int way = wayOf(links, i, j, beat);
                    if (way != NO_WAY && pushes[i] + way > pushes[j]) {
                        pushes[j] = pushes[i] + way;
                        moved = true;
                    }
                }
            }
            return moved;
        }
    }

    // ---- the loop

    private static final class LoopPlan {
        final int[] starts = new int[MOST_STEPS];
        private final int[] taken = new int[UNITS * MOST_BEAT];
        int circleBeat = 1;
        int chosen = 1;

        void makePlan(State state, Links links, int beatOfCircles) {
            circleBeat = beatOfCircles;
            int least = Math.max(Math.max(state.unitBeat(), circleBeat), state.jumpDelay + 1);
            for (int beat = least; beat <= MOST_BEAT; beat++) {
                chosen = beat;
                if (fits(state, links)) {
                    return;
                }
            }
        }

        private boolean fits(State state, Links links) {
            for (int slot = 0; slot < UNITS * MOST_BEAT; slot++) {
                taken[slot] = 0;
            }
            take(0, chosen - 1 - state.jumpDelay);
            for (int step = 0; step < state.count; step++) {
                int bundle = firstFor(state, links, step);
                if (bundle == NONE) {
                    return false;
                }
                starts[step] = bundle;
                take(state.unitOf(step), bundle);
            }
            return true;
        }

        private int slotAt(int unit, int bundle) {
            return unit * MOST_BEAT + Math.floorMod(bundle, Math.max(1, chosen));
        }

        private void take(int unit, int bundle) {
            taken[slotAt(unit, bundle)]++;
        }

        private int firstFor(State state, Links links, int step) {
            int unit = state.unitOf(step);
            int first = askedFor(links, step);
            for (int bundle = first; bundle < first + chosen; bundle++) {
                if (taken[slotAt(unit, bundle)] < state.slotRow[unit]
                        && leavesTime(links, step, bundle)) {
                    return bundle;
                }
            }
            return NONE;
        }

        private int askedFor(Links links, int step) {
            int asked = 0;
            for (int ahead = 0; ahead < step; ahead++) {
                int near = links.nearOf(ahead, step);
                int over = links.overOf(ahead, step);
                if (near != FREE) {
                    asked = Math.max(asked, starts[ahead] + near);
                }
                if (over != FREE) {
                    asked = Math.max(asked, starts[ahead] + over - chosen);
                }
            }
            return asked;
        }

        /** Whether those laid already, and the step itself, come late enough a round later. */
        private boolean leavesTime(Links links, int step, int bundle) {
            for (int other = 0; other <= step; other++) {
                int over = links.overOf(step, other);
                int start = other == step ? bundle : starts[other];
                if (over != FREE && start + chosen - bundle < over) {
                    return false;
                }
            }
            return true;
        }
    }

    // ---- doing steps

    private static final class Runner {
        private final int[] results = new int[MOST_STEPS * MOST_ROUNDS];
        private final int[] resultPlaces = new int[MOST_STEPS * MOST_ROUNDS];
        private final int[] landedAt = new int[PLACES];
        private final int[] landedRound = new int[PLACES];

        void doInOrder(State state, int rounds, int[] values) {
            System.arraycopy(state.firsts, 0, values, 0, PLACES);
            for (int round = 0; round < rounds; round++) {
                for (int step = 0; step < state.count; step++) {
                    int place = placeOf(state, step, values);
                    values[place] = resultOf(state, step, values);
                }
            }
        }

        /** Steps that start in their bundle and one beat later in each round, to one beginning. */
        void doInTime(State state, int[] starts, int beat, int rounds, int end, int[] values) {
            System.arraycopy(state.firsts, 0, values, 0, PLACES);
            for (int place = 0; place < PLACES; place++) {
                landedAt[place] = NONE;
            }
            for (int time = 0; time <= end; time++) {
                for (int step = 0; step < state.count; step++) {
                    if (starts[step] != NONE) {
                        int past = time - starts[step] - state.lengthOf(step);
                        land(step, roundOf(past, beat, rounds), time, values);
                    }
                }
                for (int step = 0; step < state.count; step++) {
                    if (starts[step] != NONE) {
                        int round = roundOf(time - starts[step], beat, rounds);
                        begin(state, step, round, values);
                    }
                }
            }
        }

        private static int roundOf(int past, int beat, int rounds) {
            if (past < 0 || beat < 1 || past % beat != 0) {
                return NONE;
            }
            int round = past / beat;
            return round < rounds && round < MOST_ROUNDS ? round : NONE;
        }

        private void begin(State state, int step, int round, int[] values) {
            if (round == NONE) {
                return;
            }
            resultPlaces[step * MOST_ROUNDS + round] = placeOf(state, step, values);
            results[step * MOST_ROUNDS + round] = resultOf(state, step, values);
        }

        /** Steps land by rising numbers, so only a later round has to be kept from being lost. */
        private void land(int step, int round, int time, int[] values) {
            if (round == NONE) {
                return;
            }
            int place = resultPlaces[step * MOST_ROUNDS + round];
            if (landedAt[place] == time && landedRound[place] > round) {
                return;
            }
            landedAt[place] = time;
            landedRound[place] = round;
            values[place] = results[step * MOST_ROUNDS + round];
        }

        private static int placeOf(State state, int step, int[] values) {
            if (state.kinds[step] == STORE) {
                return cellPlace(state, step, values);
            }
            return state.targets[step];
        }

        private static int cellPlace(State state, int step, int[] values) {
            long sum = (long) values[state.ones[step]] + state.numbers[step];
            return REGISTERS + (int) Math.floorMod(sum, (long) CELLS);
        }

        private static int resultOf(State state, int step, int[] values) {
            int one = values[state.ones[step]];
            int two = values[state.twos[step]];
            switch (state.kinds[step]) {
                case SET:
                    return state.numbers[step];
                case ADD:
                    return one + two;
                case LESS:
                    return one - two;
                case TIMES:
                    return one * two;
                case GREATER:
                    return one >= two ? one : two;
                case LOAD:
                    return values[cellPlace(state, step, values)];
                default:
                    return two;
            }
        }
    }

    // ---- steps as a text

    private static final class Text {
        private static final int BAD = -1;
        private static final int STEP = 0;
        private static final int TARGET_READ = 1;
        private static final int RIGHT_SIDE = 2;
        private static final int MINUS_READ = 3;
        private static final int DIGIT_READ = 4;
        private static final int STEP_READ = 5;
        private static final int ONE_READ = 6;
        private static final int SIGN_READ = 7;
        private static final int LOAD_OPEN = 8;
        private static final int LOAD_REGISTER = 9;
        private static final int LOAD_PLUS = 10;
        private static final int LOAD_DIGIT_1 = 11;
        private static final int LOAD_NUMBER = 12;
        private static final int STORE_OPEN = 13;
        private static final int STORE_REGISTER = 14;
        private static final int STORE_PLUS = 15;
        private static final int STORE_DIGIT_1 = 16;
        private static final int STORE_NUMBER = 17;
        private static final int STORE_CLOSED = 18;
        private static final int STORE_EQUALS = 19;

        private final int[] signs = new int[MOST_SIGNS];
        int length;

        void addSign(int code) {
            if (length >= 0 && length < MOST_SIGNS) {
                signs[length] = code;
                length++;
            }
        }

        private int signAt(int index) {
            return index >= 0 && index < length && index < MOST_SIGNS ? signs[index] : 0;
        }

        int firstBad() {
            int mode = STEP;
            for (int index = 0; index < length; index++) {
                mode = modeBehind(mode, signAt(index));
                if (mode == BAD) {
                    return index;
                }
            }
            return length;
        }

        boolean isWhole() {
            int mode = STEP;
            for (int index = 0; index < length && mode != BAD; index++) {
                mode = modeBehind(mode, signAt(index));
            }
            return mode == STEP_READ || mode == DIGIT_READ;
        }

        private static boolean isLetter(int sign) {
            return sign >= 'a' && sign <= 'l';
        }

        private static boolean isDigit(int sign) {
            return sign >= '0' && sign <= '9';
        }

        private static boolean isBetween(int sign) {
            return sign == '+' || sign == '-' || sign == '*' || sign == '^';
        }

        private static int modeBehind(int mode, int sign) {
            switch (mode) {
                case STEP:
                    return sign == '[' ? STORE_OPEN : isLetter(sign) ? TARGET_READ : BAD;
                case TARGET_READ:
                    return sign == '=' ? RIGHT_SIDE : BAD;
                case RIGHT_SIDE:
                    return modeOnRight(sign);
                case MINUS_READ:
                    return modeInNumber(sign);
                case DIGIT_READ:
                    return isDigit(sign) ? STEP_READ : sign == ';' ? STEP : BAD;
                case STEP_READ:
                    return sign == ';' ? STEP : BAD;
                case ONE_READ:
                    return isBetween(sign) ? SIGN_READ : BAD;
                case SIGN_READ:
                case STORE_EQUALS:
                    return isLetter(sign) ? STEP_READ : BAD;
                case STORE_CLOSED:
                    return sign == '=' ? STORE_EQUALS : BAD;
                default:
                    return mode < STORE_OPEN ? modeInLoad(mode, sign) : modeInStore(mode, sign);
            }
        }

        private static int modeOnRight(int sign) {
            if (sign == '-') {
                return MINUS_READ;
            }
            if (sign == '[') {
                return LOAD_OPEN;
            }
            return isLetter(sign) ? ONE_READ : modeInNumber(sign);
        }

        private static int modeInNumber(int sign) {
            if (sign == '0') {
                return STEP_READ;
            }
            return isDigit(sign) ? DIGIT_READ : BAD;
        }

        private static int modeInLoad(int mode, int sign) {
            switch (mode) {
                case LOAD_OPEN:
                    return isLetter(sign) ? LOAD_REGISTER : BAD;
                case LOAD_REGISTER:
                    return sign == '+' ? LOAD_PLUS : BAD;
                case LOAD_PLUS:
                    return sign == '1' ? LOAD_DIGIT_1 : isDigit(sign) ? LOAD_NUMBER : BAD;
                case LOAD_DIGIT_1:
                    return sign == '0' || sign == '1' ? LOAD_NUMBER : sign == ']' ? STEP_READ : BAD;
                case LOAD_NUMBER:
                    return sign == ']' ? STEP_READ : BAD;
                default:
                    return BAD;
            }
        }

        private static int modeInStore(int mode, int sign) {
            switch (mode) {
                case STORE_OPEN:
                    return isLetter(sign) ? STORE_REGISTER : BAD;
                case STORE_REGISTER:
                    return sign == '+' ? STORE_PLUS : BAD;
                case STORE_PLUS:
                    return sign == '1' ? STORE_DIGIT_1 : isDigit(sign) ? STORE_NUMBER : BAD;
                case STORE_DIGIT_1:
                    return sign == '0' || sign == '1' ? STORE_NUMBER
                            : sign == ']' ? STORE_CLOSED : BAD;
                case STORE_NUMBER:
                    return sign == ']' ? STORE_CLOSED : BAD;
                default:
                    return BAD;
            }
        }

        int countOfSteps() {
            int count = 1;
            for (int index = 0; index < length; index++) {
                count += signAt(index) == ';' ? 1 : 0;
            }
            return count;
        }

        /** Only for a whole text with few enough steps: nothing is looked at again here. */
        void putInto(State state) {
            int start = 0;
            for (int index = 0; index <= length; index++) {
                if (index == length || signAt(index) == ';') {
                    putStep(state, start, index);
                    start = index + 1;
                }
            }
        }

        private void putStep(State state, int start, int end) {
            if (signAt(start) == '[') {
                state.putIn(state.count, STORE, 0, registerOf(start + 1), registerOf(end - 1),
                        numberOf(start + 3));
                return;
            }
            int target = registerOf(start);
            if (signAt(start + 2) == '[') {
                state.putIn(state.count, LOAD, target, registerOf(start + 3), 0,
                        numberOf(start + 5));
            } else if (isLetter(signAt(start + 2))) {
                state.putIn(state.count, kindFor(signAt(start + 3)), target,
                        registerOf(start + 2), registerOf(start + 4), 0);
            } else {
                state.putIn(state.count, SET, target, 0, 0, numberOf(start + 2));
            }
        }

        private int registerOf(int index) {
            int sign = signAt(index);
            return isLetter(sign) ? sign - 'a' : 0;
        }

        private static int kindFor(int sign) {
            if (sign == '+') {
                return ADD;
            }
            if (sign == '-') {
                return LESS;
            }
            return sign == '*' ? TIMES : GREATER;
        }

        private int numberOf(int start) {
            boolean isBelow = signAt(start) == '-';
            int number = 0;
            for (int index = isBelow ? start + 1 : start; isDigit(signAt(index)) && index < length;
                    index++) {
                number = number * 10 + signAt(index) - '0';
            }
            return isBelow ? -number : number;
        }

        long hashOfSigns(long start) {
            long hash = mixed(start, length);
            for (int index = 0; index < length; index++) {
                hash = mixed(hash, signAt(index));
            }
            return hash;
        }
    }
}
