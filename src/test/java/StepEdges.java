/** Sentences of the document about steps and units, and of the promises 1 to 9 and 21 to 25. */
final class StepEdges {
    private static final int[] UNIT_OF = {0, 0, 0, 1, 0, 2, 2};

    private StepEdges() {
    }

    private static void says(int promise, String words) {
        Check.says(promise, words);
    }

    private static void constants() {
        says(0, "`NONE = -1`: There is none.");
        Check.due("NONE", -1, BuntingBundles.NONE);
        says(0, "`FREE = -99`: A step does not hang on another one.");
        Check.due("FREE", -99, BuntingBundles.FREE);
        says(0, "`SET = 0`: A kind of steps.");
        Check.due("SET", 0, BuntingBundles.SET);
        says(0, "`ADD = 1`: A kind of steps.");
        Check.due("ADD", 1, BuntingBundles.ADD);
        says(0, "`LESS = 2`: A kind of steps.");
        Check.due("LESS", 2, BuntingBundles.LESS);
        says(0, "`TIMES = 3`: A kind of steps.");
        Check.due("TIMES", 3, BuntingBundles.TIMES);
        says(0, "`GREATER = 4`: A kind of steps.");
        Check.due("GREATER", 4, BuntingBundles.GREATER);
        says(0, "`LOAD = 5`: A kind of steps.");
        Check.due("LOAD", 5, BuntingBundles.LOAD);
        says(0, "`STORE = 6`: A kind of steps.");
        Check.due("STORE", 6, BuntingBundles.STORE);
    }

    // ---- what steps are

    /** What a step of the kind leaves in its target, from two values; a number is no part of it. */
    private static void result(int kind, int one, int two, int want) {
        BuntingBundles x = new BuntingBundles();
        x.setRegister(1, one);
        x.setRegister(2, two);
        x.insert(0, kind, 0, 1, 2, 0);
        Check.due("in order: kind " + kind + " of " + one + ", " + two, want, x.registerInOrder(0));
        x.pack();
        Check.due("in bundles: kind " + kind, want, x.registerInBundles(0));
        Check.due("in the loop: kind " + kind, want, x.registerInLoop(1, 0));
        Check.due("in rounds: kind " + kind, want, x.registerInRounds(1, 0));
    }

    private static void overflow() {
        says(0, "All numbers are integers (int arithmetic, with overflow), but for a share.");
        result(1, Edge.GREATEST, 1, Edge.LEAST);
        result(1, Edge.LEAST, -1, Edge.GREATEST);
        result(2, Edge.LEAST, 1, Edge.GREATEST);
        result(2, 0, Edge.LEAST, Edge.LEAST);
        result(3, Edge.GREATEST, 2, -2);
        result(3, Edge.LEAST, -1, Edge.LEAST);
        result(3, 65536, 65536, 0);
    }

    private static void kinds() {
        says(0, "SET (0): the target becomes the number.");
        for (int number : new int[] {-99, -1, 0, 1, 99}) {
            BuntingBundles x = new BuntingBundles();
            x.setRegister(5, 1234);
            x.insert(0, 0, 5, 5, 5, number);
            Check.due("SET " + number, number, x.registerInOrder(5));
        }
        says(0, "ADD (1): the target becomes the sum of one and two.");
        result(1, 7, -9, -2);
        says(0, "LESS (2): one less two.");
        result(2, 7, -9, 16);
        result(2, -9, 7, -16);
        says(0, "TIMES (3): one times two.");
        result(3, 7, -9, -63);
        result(3, -9, 0, 0);
        says(0, "GREATER (4): the greater one of one and two.");
        int[][] pairs = {{7, 6, 7}, {6, 7, 7}, {5, 5, 5}, {-7, -6, -6}, {0, -1, 0}, {-1, 0, 0},
            {Edge.LEAST, Edge.GREATEST, Edge.GREATEST}, {Edge.GREATEST, Edge.LEAST, Edge.GREATEST},
            {Edge.LEAST, 1, 1}, {Edge.GREATEST, -1, Edge.GREATEST}};
        for (int[] pair : pairs) {
            result(4, pair[0], pair[1], pair[2]);
        }
        says(0, "LOAD (5): the target becomes the value of a cell.");
        BuntingBundles x = new BuntingBundles();
        x.setCell(4, Edge.LEAST);
        x.insert(0, 5, 9, 0, 0, 4);
        Check.due("LOAD", Edge.LEAST, x.registerInOrder(9));
        Check.due("the cell keeps its value", Edge.LEAST, x.cellInOrder(4));
        says(0, "STORE (6): a cell becomes the value of two.");
        BuntingBundles y = new BuntingBundles();
        y.setRegister(8, Edge.GREATEST);
        y.insert(0, 6, 9, 0, 8, 4);
        Check.due("STORE", Edge.GREATEST, y.cellInOrder(4));
        Check.due("the register keeps its value", Edge.GREATEST, y.registerInOrder(8));
        Check.due("the target keeps its value", 0, y.registerInOrder(9));
    }

    /** The cell that a STORE changes is the one that a LOAD takes. */
    private static void cell(int one, int number, int want) {
        BuntingBundles x = new BuntingBundles();
        for (int i = 0; i < 12; i++) {
            x.setCell(i, 100 + i);
        }
        x.setRegister(3, one);
        x.setRegister(4, -8);
        x.insert(0, 5, 5, 3, 0, number);
        x.insert(1, 6, 0, 3, 4, number);
        for (int i = 0; i < 12; i++) {
            Check.due("cell " + i + " for " + one + ", " + number, i == want ? -8 : 100 + i,
                    x.cellInOrder(i));
        }
        Check.due("LOAD for " + one + ", " + number, 100 + want, x.registerInOrder(5));
    }

    private static void cells() {
        says(0, "The cell of LOAD and STORE is the one whose number is what one and the number,"
                + " together (without overflow here), leave, divided by 12 (0 to 11, also of sums"
                + " below 0).");
        cell(0, 0, 0);
        cell(0, 11, 11);
        cell(11, 0, 11);
        cell(11, 1, 0);
        cell(0, 12, 0);
        cell(-1, 0, 11);
        cell(0, -1, 11);
        cell(-6, -5, 1);
        cell(-6, -6, 0);
        cell(-7, -6, 11);
        cell(0, -99, 9);
        cell(0, 99, 3);
        cell(Edge.GREATEST, 0, 7);
        cell(Edge.GREATEST, 1, 8);
        cell(Edge.GREATEST, 99, 10);
        cell(Edge.LEAST, 0, 4);
        cell(Edge.LEAST, -1, 3);
        cell(Edge.LEAST, -99, 1);
    }

    private static void places() {
        says(0, "There are 12 registers, 0 to 11, and 12 cells, 0 to 11;");
        BuntingBundles x = new BuntingBundles();
        for (int i = 0; i < 12; i++) {
            x.setRegister(i, 10 + i);
            x.setCell(i, 50 + i);
        }
        for (int i = 0; i < 12; i++) {
            Check.due("register " + i, 10 + i, x.registerInOrder(i));
            Check.due("cell " + i, 50 + i, x.cellInOrder(i));
        }
        says(0, "each has a value that it has at first, 0 unless it is set.");
        for (int i = 0; i < 12; i++) {
            BuntingBundles y = new BuntingBundles();
            y.setRegister(i, 3);
            BuntingBundles z = new BuntingBundles();
            z.setCell(i, 4);
            for (int k = 0; k < 12; k++) {
                Check.due("register " + k + " of " + i, k == i ? 3 : 0, y.registerInOrder(k));
                Check.due("cell " + k, 0, y.cellInOrder(k));
                Check.due("cell " + k + " of " + i, k == i ? 4 : 0, z.cellInOrder(k));
                Check.due("register " + k, 0, z.registerInOrder(k));
            }
        }
        says(0, "There are at most 20 steps, numbered from 0 in their order.");
        BuntingBundles y = new BuntingBundles();
        for (int i = 0; i < 20; i++) {
            Check.due("steps", i + 1, y.insert(i, i % 7, 0, 0, 0, 0));
        }
        for (int i = 0; i < 20; i++) {
            Check.due("kind of " + i, i % 7, y.kindOf(i));
        }
        Edge.refuses(Edge.STATE, Edge::full, z -> z.insert(20, 0, 0, 0, 0, 0));
        says(0, "Sets of steps are bit masks: bit k for the step k.");
        for (int i = 0; i < 20; i++) {
            y.lay(i, i);
            Check.due("the set of " + i, 1 << i, y.stepsIn(i));
        }
        for (int i = 0; i < 20; i++) {
            y.lay(i, 20);
        }
        Check.due("the set of all", 0xFFFFF, y.stepsIn(20));
    }

    // ---- ranges and what is not used

    private static long among(int kind, int target, int one, int two, int number) {
        BuntingBundles x = new BuntingBundles();
        for (int i = 0; i < 12; i++) {
            x.setRegister(i, 7 * i - 20);
            x.setCell(i, 100 + i);
        }
        Check.type(x, "a=b*c;d=[e+3];f=g+h;[b+5]=l");
        x.addAll();
        x.insert(4, kind, target, one, two, number);
        Check.type(x, "i=a*k;[e+2]=j;b=[k+4];l=c-d;h=[e+9]");
        x.addAll();
        x.pack();
        return x.digest();
    }

    private static void ranges() {
        says(0, "A step has a kind, a target, two registers one and two, and a number, -99 to 99;");
        Check.due("the least number", -99, Edge.made(x -> x.insert(0, 0, 1, 0, 0, -99))
                .registerInOrder(1));
        Check.due("the greatest number", 99, Edge.made(x -> x.insert(0, 0, 1, 0, 0, 99))
                .registerInOrder(1));
        says(0, "all of them are in their ranges whatever its kind, but nothing comes of what its kind"
                + " does not use:");
        for (int kind = 0; kind < 7; kind++) {
            int k = kind;
            Edge.refusesEach(Edge.INDEX, Edge::rich, (x, n) -> x.insert(0, k, n, 0, 0, 0), -1, 12);
            Edge.refusesEach(Edge.INDEX, Edge::rich, (x, n) -> x.insert(0, k, 0, n, 0, 0), -1, 12);
            Edge.refusesEach(Edge.INDEX, Edge::rich, (x, n) -> x.insert(0, k, 0, 0, n, 0), -1, 12);
            Edge.refusesEach(Edge.ARGUMENT, Edge::rich, (x, n) -> x.insert(0, k, 0, 0, 0, n), -100,
                    100);
        }
        for (int i = 0; i < 12; i++) {
            Check.due("one of SET", among(0, 9, 0, 0, 5), among(0, 9, i, 0, 5));
            Check.due("two of SET", among(0, 9, 0, 0, 5), among(0, 9, 0, i, 5));
            Check.due("two of LOAD", among(5, 9, 4, 0, 5), among(5, 9, 4, i, 5));
            Check.due("target of STORE", among(6, 0, 4, 7, 5), among(6, i, 4, 7, 5));
        }
        for (int number = -99; number <= 99; number += 11) {
            for (int kind = 1; kind <= 4; kind++) {
                Check.due("number of kind " + kind, among(kind, 9, 4, 7, 0),
                        among(kind, 9, 4, 7, number));
            }
        }
    }

    private static void readsAndWrites() {
        says(0, "A step reads the registers that it uses (ADD, LESS, TIMES and GREATER one and two,"
                + " LOAD one, STORE one and two), and writes its target (all but STORE).");
        for (int kind = 0; kind < 7; kind++) {
            for (int one = 0; one < 12; one++) {
                for (int two = 0; two < 12; two += 11) {
                    BuntingBundles x = new BuntingBundles();
                    x.insert(0, kind, 11 - one, one, two, 3);
                    int want = kind == 0 ? 0 : kind == 5 ? 1 << one : 1 << one | 1 << two;
                    Check.due("readBy, kind " + kind, want, x.readBy(0));
                    Check.due("writtenBy, kind " + kind, kind == 6 ? -1 : 11 - one, x.writtenBy(0));
                }
            }
        }
    }

    // ---- units

    /** Two steps of a kind side by side, the unit with one slot, all others with four. */
    private static BuntingBundles two(int kind, int narrow) {
        BuntingBundles x = new BuntingBundles();
        for (int unit = 0; unit < 3; unit++) {
            x.setSlots(unit, unit == narrow ? 1 : 4);
        }
        for (int step = 0; step < 2; step++) {
            x.insert(step, kind, step, 2, 3, step);
            x.lay(step, 0);
        }
        return x;
    }

    private static void units() {
        says(0, "SET, ADD, LESS and GREATER are of the unit 0, TIMES of the unit 1, LOAD and STORE of"
                + " the unit 2.");
        for (int kind = 0; kind < 7; kind++) {
            for (int unit = 0; unit < 3; unit++) {
                BuntingBundles x = two(kind, unit);
                Check.due("kind " + kind + " with one slot of " + unit,
                        unit == UNIT_OF[kind] ? 2 : 0, x.whyWrong());
                int before = x.latencyOf(0);
                x.setLatency(unit, 6);
                Check.due("latency of kind " + kind + " behind that of " + unit,
                        unit == UNIT_OF[kind] && kind != 6 ? 6 : before, x.latencyOf(0));
            }
        }
        says(0, "A unit has slots, 1 to 4 (at first 2, 1 and 1), and a latency, 1 to 6 (at first 1, 3"
                + " and 2), which is that of its steps;");
        int[] slots = {2, 1, 1};
        int[] latencies = {1, 3, 2};
        for (int unit = 0; unit < 3; unit++) {
            int u = unit;
            BuntingBundles x = new BuntingBundles();
            Check.due("slots at first", slots[unit], x.setSlots(unit, 4));
            Check.due("the most slots", 4, x.setSlots(unit, 1));
            Check.due("the fewest slots", 1, x.setSlots(unit, 2));
            Check.due("latency at first", latencies[unit], x.setLatency(unit, 6));
            Check.due("the greatest latency", 6, x.setLatency(unit, 1));
            Check.due("the least latency", 1, x.setLatency(unit, 2));
            Edge.refusesEach(Edge.ARGUMENT, Edge::rich, (y, n) -> y.setSlots(u, n), 0, 5);
            Edge.refusesEach(Edge.ARGUMENT, Edge::rich, (y, n) -> y.setLatency(u, n), 0, 7);
        }
        says(0, "only STORE has always the latency 1.");
        for (int latency = 1; latency <= 6; latency++) {
            int want = latency;
            BuntingBundles x = Check.with("a=[b+0];[b+0]=c;d=e*f;g=h+i");
            for (int unit = 0; unit < 3; unit++) {
                x.setLatency(unit, latency);
            }
            Check.due("LOAD", want, x.latencyOf(0));
            Check.due("STORE", 1, x.latencyOf(1));
            Check.due("TIMES", want, x.latencyOf(2));
            Check.due("ADD", want, x.latencyOf(3));
        }
    }

    // ---- promise 1

    private static void newObject() {
        says(1, "Creates a packer without steps, units as told above, with an empty buffer and no"
                + " snapshot.");
        BuntingBundles x = new BuntingBundles();
        Edge.rich(new BuntingBundles());
        Check.due("steps", 0, x.steps());
        Check.due("buffer", 0, x.clearBuffer());
        Check.due("firstError", 0, x.firstError());
        Check.due("saved states", 0, x.savedStates());
        Check.due("delay", 1, x.setDelay(1));
        Edge.refuses(Edge.STATE, y -> { }, BuntingBundles::goBack);
        Edge.refuses(Edge.STATE, y -> { }, BuntingBundles::undo);
        Edge.refuses(Edge.INDEX, y -> { }, y -> y.kindOf(0));
        Edge.same("each object has its own state", y -> { }, y -> Edge.rich(new BuntingBundles()));
    }

    // ---- promise 2

    /** Unlike steps: all that a step has has to go along with it. */
    private static final int[][] UNLIKE = {{3, 0, 1, 2, 0}, {0, 4, 0, 0, -9}, {6, 0, 3, 4, 10},
        {2, 5, 0, 4, 0}, {5, 6, 7, 0, -30}, {4, 8, 5, 9, 0}, {6, 0, 10, 8, 99}, {1, 11, 6, 8, 0}};

    /** The steps in this order, each laid in a bundle of its own; values that show them all. */
    private static void inOrder(BuntingBundles x, int... order) {
        for (int i = 0; i < 12; i++) {
            x.setRegister(i, 7 * i + 2);
            x.setCell(i, 300 - i * i);
        }
        for (int which : order) {
            putIn(x, x.steps(), which);
        }
    }

    private static void putIn(BuntingBundles x, int place, int which) {
        int[] s = UNLIKE[which];
        x.insert(place, s[0], s[1], s[2], s[3], s[4]);
        x.lay(place, 20 + 3 * which);
    }

    private static void saveFive(BuntingBundles x) {
        for (int turn = 0; turn < 5; turn++) {
            x.setDelay(1);
        }
    }

    /** Both ways lead to the same steps; what was saved on the way is dropped. */
    private static void alike(String what, Edge.To way, Edge.To other) {
        Edge.same(what, x -> {
            way.go(x);
            saveFive(x);
        }, x -> {
            other.go(x);
            saveFive(x);
        });
    }

    private static int[] allBut(int left) {
        int[] order = new int[7];
        for (int i = 0; i < 7; i++) {
            order[i] = i < left ? i : i + 1;
        }
        return order;
    }

    private static int[] exchanged(int step, int other) {
        int[] order = {0, 1, 2, 3, 4, 5, 6, 7};
        order[step] = other;
        order[other] = step;
        return order;
    }

    /** Steps that write the registers 0 and on, each laid in a bundle of its own. */
    private static BuntingBundles row(int count) {
        BuntingBundles x = new BuntingBundles();
        for (int i = 0; i < count; i++) {
            x.insert(i, 0, i % 12, 0, 0, i);
            x.lay(i, 30 + i);
        }
        return x;
    }

    private static void insertPlaces() {
        says(2, "Inserts a step;");
        BuntingBundles x = new BuntingBundles();
        x.insert(0, 2, 9, 10, 11, -7);
        Check.due("kind", 2, x.kindOf(0));
        Check.due("reads", 3 << 10, x.readBy(0));
        Check.due("writes", 9, x.writtenBy(0));
        x.setRegister(10, 5);
        x.setRegister(11, 8);
        Check.due("one less two", -3, x.registerInOrder(9));
        says(2, "those from its place on have numbers that are greater by 1 then.");
        for (int count = 0; count < 20; count += count < 3 ? 1 : 8) {
            for (int place = 0; place <= count; place++) {
                BuntingBundles y = row(count);
                Check.due("steps", count + 1, y.insert(place, 6, 0, 0, 0, 0));
                for (int i = 0; i <= count; i++) {
                    int was = i < place ? i : i - 1;
                    Check.due("writer " + i, i == place ? -1 : was % 12, y.writtenBy(i));
                    Check.due("bundle " + i, i == place ? -1 : 30 + was, y.bundleOf(i));
                }
            }
        }
        for (int place = 0; place < 8; place++) {
            int p = place;
            alike("inserted at " + place, y -> {
                inOrder(y, allBut(p));
                putIn(y, p, p);
            }, y -> inOrder(y, 0, 1, 2, 3, 4, 5, 6, 7));
        }
        says(2, "It is laid in no bundle.");
        BuntingBundles z = row(20);
        z.remove(19);
        z.insert(19, 0, 0, 0, 0, 0);
        Check.due("where one was laid before", -1, z.bundleOf(19));
        z.remove(0);
        z.insert(0, 0, 0, 0, 0, 0);
        Check.due("where one was laid before", -1, z.bundleOf(0));
        says(2, "`place`: 0 to steps()");
        Edge.takesEach(Edge::rich, (y, n) -> y.insert(n, 0, 0, 0, 0, 0), 0, 1, 5, 6);
        Edge.refusesEach(Edge.INDEX, Edge::rich, (y, n) -> y.insert(n, 0, 0, 0, 0, 0), -1, 7, 20,
                Edge.LEAST, Edge.GREATEST);
        Edge.takesEach(y -> { }, (y, n) -> y.insert(n, 0, 0, 0, 0, 0), 0);
        Edge.refusesEach(Edge.INDEX, y -> { }, (y, n) -> y.insert(n, 0, 0, 0, 0, 0), -1, 1);
        says(2, "Returns how many steps there are then.");
        BuntingBundles w = new BuntingBundles();
        for (int i = 1; i <= 20; i++) {
            Check.due("inserted ahead", i, w.insert(0, 0, 0, 0, 0, 0));
        }
    }

    private static void insertArguments() {
        says(2, "Undoable.");
        Edge.undoable(Edge::rich, x -> x.insert(3, 3, 1, 2, 3, 4));
        Edge.undoable(x -> { }, x -> x.insert(0, 3, 1, 2, 3, 4));
        says(2, "`kind`: SET to STORE");
        Edge.takesEach(Edge::rich, (x, n) -> x.insert(0, n, 0, 0, 0, 0), 0, 1, 2, 3, 4, 5, 6);
        says(2, "Throws `IllegalArgumentException` if kind or number is out of range");
        Edge.refusesEach(Edge.ARGUMENT, Edge::rich, (x, n) -> x.insert(0, n, 0, 0, 0, 0), -1, 7,
                Edge.LEAST, Edge.GREATEST);
        Edge.refusesEach(Edge.ARGUMENT, Edge::rich, (x, n) -> x.insert(0, 0, 0, 0, 0, n), -100, 100,
                Edge.LEAST, Edge.GREATEST);
        says(2, "`number`: -99 to 99 (whatever the kind)");
        for (int kind = 0; kind < 7; kind++) {
            int k = kind;
            Edge.takesEach(Edge::rich, (x, n) -> x.insert(0, k, 0, 0, 0, n), -99, 0, 99);
            Edge.refusesEach(Edge.ARGUMENT, Edge::rich, (x, n) -> x.insert(0, k, 0, 0, 0, n), -100,
                    100);
        }
        says(2, "`target`: 0 to 11 (whatever the kind)");
        for (int kind = 0; kind < 7; kind++) {
            int k = kind;
            Edge.takesEach(Edge::rich, (x, n) -> x.insert(0, k, n, 0, 0, 0), 0, 11);
            Edge.refusesEach(Edge.INDEX, Edge::rich, (x, n) -> x.insert(0, k, n, 0, 0, 0), -1, 12);
        }
        says(2, "`one`: 0 to 11 (whatever the kind)");
        for (int kind = 0; kind < 7; kind++) {
            int k = kind;
            Edge.takesEach(Edge::rich, (x, n) -> x.insert(0, k, 0, n, 0, 0), 0, 11);
            Edge.refusesEach(Edge.INDEX, Edge::rich, (x, n) -> x.insert(0, k, 0, n, 0, 0), -1, 12);
        }
        says(2, "`two`: 0 to 11 (whatever the kind)");
        for (int kind = 0; kind < 7; kind++) {
            int k = kind;
            Edge.takesEach(Edge::rich, (x, n) -> x.insert(0, k, 0, 0, n, 0), 0, 11);
            Edge.refusesEach(Edge.INDEX, Edge::rich, (x, n) -> x.insert(0, k, 0, 0, n, 0), -1, 12);
        }
        says(2, "Throws `IndexOutOfBoundsException` if there is no such place or register");
        Edge.refuses(Edge.INDEX, Edge::rich, x -> x.insert(7, 0, 0, 0, 0, 0));
        Edge.refusesEach(Edge.INDEX, Edge::rich, (x, n) -> x.insert(0, 0, n, 0, 0, 0), Edge.LEAST,
                Edge.GREATEST);
        Edge.refusesEach(Edge.INDEX, Edge::rich, (x, n) -> x.insert(0, 0, 0, n, 0, 0), Edge.LEAST,
                Edge.GREATEST);
        Edge.refusesEach(Edge.INDEX, Edge::rich, (x, n) -> x.insert(0, 0, 0, 0, n, 0), Edge.LEAST,
                Edge.GREATEST);
        says(2, "Throws `IllegalStateException` if there are 20 steps");
        for (int place = 0; place <= 20; place += 10) {
            int p = place;
            Edge.refuses(Edge.STATE, Edge::full, x -> x.insert(p, 0, 0, 0, 0, 0));
        }
        BuntingBundles x = Edge.made(Edge::full);
        x.remove(4);
        Check.due("the 20th again", 20, x.insert(20 - 1, 0, 0, 0, 0, 0));
    }

    // ---- promises 3 and 4

    private static void remove() {
        says(3, "Removes a step; those behind it have numbers that are less by 1 then.");
        for (int count : new int[] {1, 2, 5, 20}) {
            for (int step = 0; step < count; step++) {
                BuntingBundles x = row(count);
                Check.due("steps left", count - 1, x.remove(step));
                for (int i = 0; i < count - 1; i++) {
                    int was = i < step ? i : i + 1;
                    Check.due("writer " + i, was % 12, x.writtenBy(i));
                    Check.due("bundle " + i, 30 + was, x.bundleOf(i));
                }
            }
        }
        for (int step = 0; step < 8; step++) {
            int gone = step;
            alike("removed " + step, y -> {
                inOrder(y, 0, 1, 2, 3, 4, 5, 6, 7);
                y.remove(gone);
            }, y -> inOrder(y, allBut(gone)));
        }
        says(3, "Undoable.");
        Edge.undoable(Edge::rich, x -> x.remove(2));
        Edge.undoable(x -> x.insert(0, 0, 0, 0, 0, 0), x -> x.remove(0));
        says(3, "`step`: its number");
        Edge.takesEach(Edge::rich, BuntingBundles::remove, 0, 5);
        says(3, "Returns how many steps are left.");
        BuntingBundles x = row(20);
        for (int left = 19; left >= 0; left--) {
            Check.due("steps left", left, x.remove(left / 2));
        }
        says(3, "Throws `IndexOutOfBoundsException` if there is no such step");
        Edge.refusesEach(Edge.INDEX, Edge::rich, BuntingBundles::remove, -1, 6, 20, Edge.LEAST,
                Edge.GREATEST);
        Edge.refusesEach(Edge.INDEX, Edge::full, BuntingBundles::remove, -1, 20);
        Edge.refusesEach(Edge.INDEX, y -> { }, BuntingBundles::remove, -1, 0);
    }

    private static void exchange() {
        says(4, "Exchanges two steps in the order; each takes its bundle along.");
        for (int step = 0; step < 5; step++) {
            for (int other = 0; other < 5; other++) {
                BuntingBundles x = row(5);
                x.takeOut(1);
                x.exchange(step, other);
                for (int i = 0; i < 5; i++) {
                    int was = i == step ? other : i == other ? step : i;
                    Check.due("writer " + i, was, x.writtenBy(i));
                    Check.due("bundle " + i, was == 1 ? -1 : 30 + was, x.bundleOf(i));
                }
            }
        }
        for (int step = 0; step < 8; step++) {
            for (int other = 0; other < 8; other++) {
                int a = step;
                int b = other;
                alike("exchanged " + step + " and " + other, y -> {
                    inOrder(y, 0, 1, 2, 3, 4, 5, 6, 7);
                    y.exchange(a, b);
                }, y -> inOrder(y, exchanged(a, b)));
            }
        }
        says(4, "Undoable.");
        Edge.undoable(Edge::rich, x -> x.exchange(1, 4));
        Edge.undoable(Edge::rich, x -> x.exchange(2, 2));
        says(4, "`step`: its number");
        Edge.takesEach(Edge::rich, (x, n) -> x.exchange(n, 2), 0, 5);
        says(4, "`other`: its number, perhaps the same");
        Edge.takesEach(Edge::rich, (x, n) -> x.exchange(2, n), 0, 5);
        Edge.takesEach(Edge::rich, (x, n) -> x.exchange(n, n), 0, 5);
        says(4, "Returns the separation of the later one on the earlier one then;");
        Check.due("sum ahead of product", -2, Check.with("a=b*c;d=a+a").exchange(0, 1));
        Check.due("the numbers turned", -2, Check.with("a=b*c;d=a+a").exchange(1, 0));
        Check.due("product ahead of sum", 3, Check.with("d=a+a;e=1;a=b*c").exchange(2, 0));
        says(4, "FREE if it does not hang on it, or they are the same.");
        Check.due("they do not hang", Edge.FREE, Check.with("a=1;b=2").exchange(0, 1));
        Check.due("hidden by a step between", Edge.FREE,
                Check.with("d=a+a;a=1;a=b*c").exchange(0, 2));
        Check.due("the same", Edge.FREE, Check.with("a=a*a").exchange(0, 0));
        says(4, "Throws `IndexOutOfBoundsException` if there is no such step");
        Edge.refusesEach(Edge.INDEX, Edge::rich, (x, n) -> x.exchange(n, 0), -1, 6, Edge.LEAST,
                Edge.GREATEST);
        Edge.refusesEach(Edge.INDEX, Edge::rich, (x, n) -> x.exchange(0, n), -1, 6, Edge.LEAST,
                Edge.GREATEST);
        Edge.refusesEach(Edge.INDEX, Edge::rich, (x, n) -> x.exchange(n, n), -1, 6);
    }

    // ---- promises 5 to 9

    private static void setRegister() {
        says(5, "Sets the value that a register has at first.");
        BuntingBundles x = Check.with("a=1;b=a+c");
        x.setRegister(0, 9);
        x.setRegister(2, 5);
        Check.due("ahead of all bundles", 9, x.registerAt(0, 0));
        Check.due("behind no rounds", 9, x.registerInRounds(0, 0));
        Check.due("read by a step", 6, x.registerInOrder(1));
        says(5, "Undoable.");
        Edge.undoable(Edge::rich, y -> y.setRegister(3, 77));
        Edge.undoable(Edge::rich, y -> y.setRegister(3, 14));
        says(5, "`register`: 0 to 11");
        Edge.takesEach(Edge::rich, (y, n) -> y.setRegister(n, 1), 0, 11);
        says(5, "`value`: any number");
        for (int value : new int[] {Edge.LEAST, -100, -1, 0, 1, 100, Edge.GREATEST}) {
            BuntingBundles y = new BuntingBundles();
            y.setRegister(7, value);
            Check.due("the value", value, y.registerInOrder(7));
        }
        says(5, "Returns the previous value.");
        BuntingBundles z = new BuntingBundles();
        Check.due("at first", 0, z.setRegister(11, Edge.LEAST));
        Check.due("then", Edge.LEAST, z.setRegister(11, Edge.GREATEST));
        Check.due("then", Edge.GREATEST, z.setRegister(11, -1));
        z.undo();
        Check.due("behind undo", Edge.GREATEST, z.setRegister(11, 0));
        Check.due("not what a step writes", 0, Check.with("a=7").setRegister(0, 3));
        says(5, "Throws `IndexOutOfBoundsException` if there is no such register");
        Edge.refusesEach(Edge.INDEX, Edge::rich, (y, n) -> y.setRegister(n, 0), -1, 12, 24,
                Edge.LEAST, Edge.GREATEST);
    }

    private static void setCell() {
        says(6, "Sets the value that a cell has at first.");
        BuntingBundles x = Check.with("a=[b+4];[b+5]=a");
        x.setCell(4, 6);
        x.setCell(5, 3);
        Check.due("behind no rounds", 3, x.cellInLoop(0, 5));
        Check.due("read by a step", 6, x.cellInOrder(5));
        Check.due("with no bundles", 3, x.cellInBundles(5));
        says(6, "Undoable.");
        Edge.undoable(Edge::rich, y -> y.setCell(3, 77));
        Edge.undoable(Edge::rich, y -> y.setCell(0, 1000));
        says(6, "`cell`: 0 to 11");
        Edge.takesEach(Edge::rich, (y, n) -> y.setCell(n, 1), 0, 11);
        says(6, "`value`: any number");
        for (int value : new int[] {Edge.LEAST, -100, -1, 0, 1, 100, Edge.GREATEST}) {
            BuntingBundles y = new BuntingBundles();
            y.setCell(7, value);
            Check.due("the value", value, y.cellInOrder(7));
        }
        says(6, "Returns the previous value.");
        BuntingBundles z = new BuntingBundles();
        Check.due("at first", 0, z.setCell(11, Edge.LEAST));
        Check.due("then", Edge.LEAST, z.setCell(11, Edge.GREATEST));
        Check.due("then", Edge.GREATEST, z.setCell(11, -1));
        Check.due("another one", 0, z.setCell(10, 4));
        says(6, "Throws `IndexOutOfBoundsException` if there is no such cell");
        Edge.refusesEach(Edge.INDEX, Edge::rich, (y, n) -> y.setCell(n, 0), -1, -12, 12, Edge.LEAST,
                Edge.GREATEST);
    }

    private static void setSlots() {
        says(7, "Changes the slots of a unit.");
        BuntingBundles x = Check.with("a=1;b=2;c=3");
        for (int step = 0; step < 3; step++) {
            x.lay(step, 0);
        }
        Check.due("three in two slots", 2, x.whyWrong());
        x.setSlots(0, 3);
        Check.due("three in three slots", 0, x.whyWrong());
        x.setSlots(1, 1);
        x.setSlots(2, 1);
        Check.due("slots of other units", 0, x.whyWrong());
        says(7, "Undoable.");
        Edge.undoable(Edge::rich, y -> y.setSlots(1, 3));
        Edge.undoable(Edge::rich, y -> y.setSlots(2, 2));
        says(7, "`unit`: 0 to 2");
        Edge.takesEach(Edge::rich, (y, n) -> y.setSlots(n, 1), 0, 1, 2);
        says(7, "`slots`: 1 to 4");
        for (int unit = 0; unit < 3; unit++) {
            int u = unit;
            Edge.takesEach(Edge::rich, (y, n) -> y.setSlots(u, n), 1, 2, 3, 4);
        }
        says(7, "Returns the previous slots.");
        BuntingBundles z = new BuntingBundles();
        int[] previous = {2, 1, 1};
        for (int slots : new int[] {4, 1, 3, 3, 2}) {
            for (int unit = 0; unit < 3; unit++) {
                Check.due("slots of " + unit, previous[unit], z.setSlots(unit, slots));
                previous[unit] = slots;
            }
        }
        says(7, "Throws `IndexOutOfBoundsException` if there is no such unit");
        Edge.refusesEach(Edge.INDEX, Edge::rich, (y, n) -> y.setSlots(n, 1), -1, 3, Edge.LEAST,
                Edge.GREATEST);
        says(7, "Throws `IllegalArgumentException` if slots is out of range");
        for (int unit = 0; unit < 3; unit++) {
            int u = unit;
            Edge.refusesEach(Edge.ARGUMENT, Edge::rich, (y, n) -> y.setSlots(u, n), -1, 0, 5,
                    Edge.LEAST, Edge.GREATEST);
        }
    }

    private static void setLatency() {
        says(8, "Changes the latency of a unit.");
        BuntingBundles x = Check.with("a=b*c;d=a+a");
        x.setLatency(1, 6);
        Check.due("the step's", 6, x.latencyOf(0));
        Check.due("another unit's", 1, x.latencyOf(1));
        Check.due("the separation", 6, x.separation(0, 1));
        says(8, "Undoable.");
        Edge.undoable(Edge::rich, y -> y.setLatency(2, 5));
        Edge.undoable(Edge::rich, y -> y.setLatency(1, 4));
        says(8, "`unit`: 0 to 2");
        Edge.takesEach(Edge::rich, (y, n) -> y.setLatency(n, 1), 0, 1, 2);
        says(8, "`latency`: 1 to 6");
        for (int unit = 0; unit < 3; unit++) {
            int u = unit;
            Edge.takesEach(Edge::rich, (y, n) -> y.setLatency(u, n), 1, 2, 3, 4, 5, 6);
        }
        says(8, "Returns the previous latency.");
        BuntingBundles z = new BuntingBundles();
        int[] previous = {1, 3, 2};
        for (int latency : new int[] {6, 1, 5, 5, 2}) {
            for (int unit = 0; unit < 3; unit++) {
                Check.due("latency of " + unit, previous[unit], z.setLatency(unit, latency));
                previous[unit] = latency;
            }
        }
        says(8, "Throws `IndexOutOfBoundsException` if there is no such unit");
        Edge.refusesEach(Edge.INDEX, Edge::rich, (y, n) -> y.setLatency(n, 1), -1, 3, Edge.LEAST,
                Edge.GREATEST);
        says(8, "Throws `IllegalArgumentException` if latency is out of range");
        for (int unit = 0; unit < 3; unit++) {
            int u = unit;
            Edge.refusesEach(Edge.ARGUMENT, Edge::rich, (y, n) -> y.setLatency(u, n), -1, 0, 7,
                    Edge.LEAST, Edge.GREATEST);
        }
    }

    private static void setDelay() {
        says(9, "Changes the delay of the jump.");
        BuntingBundles x = Check.with("a=a*b;a=a*b");
        for (int delay = 0; delay <= 3; delay++) {
            x.setDelay(delay);
            Check.due("the jump with the delay " + delay, 5 - delay, x.jumpBundle());
        }
        says(9, "Undoable.");
        Edge.undoable(Edge::rich, y -> y.setDelay(3));
        Edge.undoable(Edge::rich, y -> y.setDelay(2));
        says(9, "`delay`: 0 to 3");
        Edge.takesEach(Edge::rich, BuntingBundles::setDelay, 0, 1, 2, 3);
        says(9, "Returns the previous delay.");
        BuntingBundles z = new BuntingBundles();
        Check.due("at first", 1, z.setDelay(3));
        Check.due("then", 3, z.setDelay(0));
        Check.due("then", 0, z.setDelay(0));
        Check.due("then", 0, z.setDelay(2));
        says(9, "Throws `IllegalArgumentException` if delay is out of range");
        Edge.refusesEach(Edge.ARGUMENT, Edge::rich, BuntingBundles::setDelay, -1, 4, Edge.LEAST,
                Edge.GREATEST);
    }

    // ---- promises 21 to 25

    private static void countAndKind() {
        says(21, "Returns how many steps there are.");
        BuntingBundles x = row(7);
        Check.due("inserted", 7, x.steps());
        x.remove(0);
        Check.due("removed", 6, x.steps());
        x.undo();
        Check.due("undone", 7, x.steps());
        says(21, "Returns 0 to 20.");
        Check.due("none", 0, new BuntingBundles().steps());
        Check.due("the most", 20, Edge.made(Edge::full).steps());
        says(22, "Returns the kind of a step.");
        for (int step = 0; step < 6; step++) {
            Check.due("kind of " + step, new int[] {3, 2, 6, 5, 2, 0}[step],
                    Edge.made(Edge::rich).kindOf(step));
        }
        says(22, "`step`: its number");
        Edge.takesEach(Edge::rich, BuntingBundles::kindOf, 0, 5);
        says(22, "Returns SET to STORE.");
        BuntingBundles y = new BuntingBundles();
        for (int kind = 0; kind < 7; kind++) {
            y.insert(kind, kind, 0, 0, 0, 0);
            Check.due("kind", kind, y.kindOf(kind));
        }
        says(22, "Throws `IndexOutOfBoundsException` if there is no such step");
        Edge.refusesEach(Edge.INDEX, Edge::rich, BuntingBundles::kindOf, -1, 6, 20, Edge.LEAST,
                Edge.GREATEST);
        Edge.refusesEach(Edge.INDEX, Edge::full, BuntingBundles::kindOf, 20);
        Edge.refusesEach(Edge.INDEX, z -> { }, BuntingBundles::kindOf, 0);
    }

    private static void reading() {
        says(23, "Returns the registers that a step reads.");
        Check.due("b*c", 6, Check.with("a=b*c").readBy(0));
        Check.due("what it writes is read only if it reads it", 3, Check.with("a=a+b").readBy(0));
        says(23, "`step`: its number");
        Edge.takesEach(Edge::rich, BuntingBundles::readBy, 0, 5);
        says(23, "Returns the set of registers.");
        Check.due("none", 0, Check.with("l=-5").readBy(0));
        Check.due("the first and the last one", 1 | 1 << 11, Check.with("b=l^a").readBy(0));
        Check.due("one register twice", 1 << 11, Check.with("b=l*l").readBy(0));
        Check.due("of LOAD", 1 << 11, Check.with("b=[l+3]").readBy(0));
        Check.due("of STORE", 1 << 11 | 1, Check.with("[l+3]=a").readBy(0));
        says(23, "Throws `IndexOutOfBoundsException` if there is no such step");
        Edge.refusesEach(Edge.INDEX, Edge::rich, BuntingBundles::readBy, -1, 6, 20, Edge.LEAST,
                Edge.GREATEST);
        Edge.refusesEach(Edge.INDEX, Edge::full, BuntingBundles::readBy, 20);
        Edge.refusesEach(Edge.INDEX, z -> { }, BuntingBundles::readBy, 0);
    }

    private static void writing() {
        says(24, "Returns the register that a step writes.");
        Check.due("the last one", 11, Check.with("l=b*c").writtenBy(0));
        says(24, "`step`: its number");
        Edge.takesEach(Edge::rich, BuntingBundles::writtenBy, 0, 5);
        says(24, "Returns the register;");
        for (int kind = 0; kind < 6; kind++) {
            for (int register = 0; register < 12; register++) {
                BuntingBundles x = new BuntingBundles();
                x.insert(0, kind, register, 5, 6, 7);
                Check.due("kind " + kind, register, x.writtenBy(0));
            }
        }
        says(24, "NONE if it is STORE.");
        for (int register = 0; register < 12; register++) {
            BuntingBundles x = new BuntingBundles();
            x.insert(0, 6, register, 5, 6, 7);
            Check.due("the target " + register, -1, x.writtenBy(0));
        }
        says(24, "Throws `IndexOutOfBoundsException` if there is no such step");
        Edge.refusesEach(Edge.INDEX, Edge::rich, BuntingBundles::writtenBy, -1, 6, 20, Edge.LEAST,
                Edge.GREATEST);
        Edge.refusesEach(Edge.INDEX, Edge::full, BuntingBundles::writtenBy, 20);
        Edge.refusesEach(Edge.INDEX, z -> { }, BuntingBundles::writtenBy, 0);
    }

    private static void latencies() {
        says(25, "Returns the latency of a step.");
        int[] want = {4, 1, 1, 2, 1, 1};
        for (int step = 0; step < 6; step++) {
            Check.due("latency of " + step, want[step], Edge.made(Edge::rich).latencyOf(step));
        }
        says(25, "`step`: its number");
        Edge.takesEach(Edge::rich, BuntingBundles::latencyOf, 0, 5);
        says(25, "Returns the latency.");
        BuntingBundles x = Check.with("a=b*c");
        for (int latency = 1; latency <= 6; latency++) {
            x.setLatency(1, latency);
            Check.due("the unit's", latency, x.latencyOf(0));
        }
        x.undo();
        Check.due("behind undo", 5, x.latencyOf(0));
        says(25, "Throws `IndexOutOfBoundsException` if there is no such step");
        Edge.refusesEach(Edge.INDEX, Edge::rich, BuntingBundles::latencyOf, -1, 6, 20, Edge.LEAST,
                Edge.GREATEST);
        Edge.refusesEach(Edge.INDEX, Edge::full, BuntingBundles::latencyOf, 20);
        Edge.refusesEach(Edge.INDEX, z -> { }, BuntingBundles::latencyOf, 0);
    }

    static void run() {
        constants();
        overflow();
        kinds();
        cells();
        places();
        ranges();
        readsAndWrites();
        units();
        newObject();
        insertPlaces();
        insertArguments();
        remove();
        exchange();
        setRegister();
        setCell();
        setSlots();
        setLatency();
        setDelay();
        countAndKind();
        reading();
        writing();
        latencies();
    }
}
