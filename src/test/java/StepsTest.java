/** Promises 1 to 9 and 21 to 25: a new object, steps, values at first, units. */
final class StepsTest {
    private static void newObject() {
        BuntingBundles x = new BuntingBundles();
        Check.due("steps", 0, x.steps());
        Check.due("savedStates", 0, x.savedStates());
        Check.due("firstError of an empty buffer", 0, x.firstError());
        Check.due("clearBuffer of an empty buffer", 0, x.clearBuffer());
        Check.due("bundles", 0, x.bundles());
        Check.due("beat", 2, x.beat());
        Check.due("jumpBundle", 0, x.jumpBundle());
        Check.due("slots of 0", 2, x.setSlots(0, 1));
        Check.due("slots of 1", 1, x.setSlots(1, 2));
        Check.due("slots of 2", 1, x.setSlots(2, 2));
        Check.due("latency of 0", 1, x.setLatency(0, 2));
        Check.due("latency of 1", 3, x.setLatency(1, 2));
        Check.due("latency of 2", 2, x.setLatency(2, 3));
        Check.due("delay", 1, x.setDelay(0));
        for (int place = 0; place < 12; place++) {
            Check.due("register at first", 0, x.setRegister(place, 5));
            Check.due("cell at first", 0, x.setCell(place, 6));
        }
        BuntingBundles y = new BuntingBundles();
        Check.throwing(y, "goBack without a snapshot", IllegalStateException.class, y::goBack);
    }

    private static void insert() {
        BuntingBundles x = new BuntingBundles();
        Check.due("insert", 1, x.insert(0, BuntingBundles.SET, 1, 2, 3, -99));
        Check.due("insert behind", 2, x.insert(1, BuntingBundles.STORE, 11, 4, 5, 99));
        x.lay(0, 7);
        x.lay(1, 8);
        Check.due("insert between", 3, x.insert(1, BuntingBundles.LOAD, 6, 7, 8, 0));
        Check.due("kind of the first", BuntingBundles.SET, x.kindOf(0));
        Check.due("kind of the new one", BuntingBundles.LOAD, x.kindOf(1));
        Check.due("kind of the one behind", BuntingBundles.STORE, x.kindOf(2));
        Check.due("bundle of the first", 7, x.bundleOf(0));
        Check.due("bundle of the new one", BuntingBundles.NONE, x.bundleOf(1));
        Check.due("bundle of the one behind", 8, x.bundleOf(2));
        Check.due("savedStates", 5, x.savedStates());
        x.undo();
        Check.due("steps behind undo", 2, x.steps());
        for (int i = 2; i < 20; i++) {
            Check.due("insert ahead", i + 1, x.insert(0, i % 7, 0, 0, 0, 0));
        }
        Check.throwing(x, "the step 21", IllegalStateException.class,
                () -> x.insert(20, 0, 0, 0, 0, 0));
        Check.throwing(x, "place first", IndexOutOfBoundsException.class,
                () -> x.insert(21, 7, 0, 0, 0, 0));
        Check.throwing(x, "kind ahead of the count", IllegalArgumentException.class,
                () -> x.insert(0, 7, 0, 0, 0, 0));
    }

    private static void insertWrong() {
        BuntingBundles x = Check.with("a=1;b=2");
        int[][] wrongPlaces = {{-1, 0, 0, 0, 0, 0}, {3, 0, 0, 0, 0, 0}, {0, 0, -1, 0, 0, 0},
            {0, 0, 12, 0, 0, 0}, {0, 0, 0, -1, 0, 0}, {0, 0, 0, 12, 0, 0}, {0, 0, 0, 0, -1, 0},
            {0, 0, 0, 0, 12, 0}, {0, -1, 12, 0, 0, 0}, {0, 0, 0, 0, 12, 100},
            {Integer.MIN_VALUE, 0, 0, 0, 0, 0}, {Integer.MAX_VALUE, 0, 0, 0, 0, 0}};
        for (int[] w : wrongPlaces) {
            Check.throwing(x, "insert", IndexOutOfBoundsException.class,
                    () -> x.insert(w[0], w[1], w[2], w[3], w[4], w[5]));
        }
        int[][] wrongArguments = {{0, -1, 0, 0, 0, 0}, {0, 7, 0, 0, 0, 0}, {0, 0, 0, 0, 0, 100},
            {0, 0, 0, 0, 0, -100}, {2, 1, 0, 0, 0, Integer.MIN_VALUE}};
        for (int[] w : wrongArguments) {
            Check.throwing(x, "insert", IllegalArgumentException.class,
                    () -> x.insert(w[0], w[1], w[2], w[3], w[4], w[5]));
        }
    }

    private static void remove() {
        BuntingBundles x = Check.with("a=1;b=c+d;[e+1]=f");
        x.lay(2, 9);
        Check.due("remove", 2, x.remove(1));
        Check.due("kind behind", BuntingBundles.STORE, x.kindOf(1));
        Check.due("bundle behind", 9, x.bundleOf(1));
        Check.throwing(x, "remove 2", IndexOutOfBoundsException.class, () -> x.remove(2));
        Check.throwing(x, "remove -1", IndexOutOfBoundsException.class, () -> x.remove(-1));
        Check.due("remove the last", 1, x.remove(1));
        Check.due("remove the only", 0, x.remove(0));
        Check.throwing(x, "remove of none", IndexOutOfBoundsException.class, () -> x.remove(0));
        x.undo();
        Check.due("undo of remove", 1, x.steps());
        BuntingBundles y = new BuntingBundles();
        for (int i = 0; i < 20; i++) {
            y.insert(i, BuntingBundles.SET, 0, 0, 0, i);
            y.lay(i, i);
        }
        Check.due("remove one of 20", 19, y.remove(5));
        Check.due("remove the last of 19", 18, y.remove(18));
        y.insert(18, BuntingBundles.SET, 0, 0, 0, 0);
        y.insert(19, BuntingBundles.SET, 0, 0, 0, 0);
        Check.due("remove the last of 20", 19, y.remove(19));
        y.insert(0, BuntingBundles.SET, 0, 0, 0, 0);
        Check.due("remove the first of 20", 19, y.remove(0));
        for (int i = 0; i < 18; i++) {
            Check.due("the bundle of " + i, i < 5 ? i : i + 1, y.bundleOf(i));
        }
    }

    private static void exchange() {
        BuntingBundles x = Check.with("a=b*c;d=a+a;e=7");
        x.lay(0, 4);
        Check.due("sum ahead of product", -2, x.exchange(0, 1));
        Check.due("kind 0", BuntingBundles.ADD, x.kindOf(0));
        Check.due("bundle 0", BuntingBundles.NONE, x.bundleOf(0));
        Check.due("bundle 1", 4, x.bundleOf(1));
        Check.due("back, the numbers turned", 3, x.exchange(1, 0));
        Check.due("nothing hangs", BuntingBundles.FREE, x.exchange(0, 2));
        Check.due("the same", BuntingBundles.FREE, x.exchange(1, 1));
        Check.due("saved, though nothing is changed", 5, x.savedStates());
        Check.throwing(x, "exchange", IndexOutOfBoundsException.class, () -> x.exchange(0, 3));
        Check.throwing(x, "exchange", IndexOutOfBoundsException.class, () -> x.exchange(3, 0));
        Check.throwing(x, "exchange", IndexOutOfBoundsException.class, () -> x.exchange(-1, -1));
    }

    private static void values() {
        BuntingBundles x = new BuntingBundles();
        Check.due("setRegister", 0, x.setRegister(11, Integer.MIN_VALUE));
        Check.due("setRegister again", Integer.MIN_VALUE, x.setRegister(11, 5));
        Check.due("registerInOrder", 5, x.registerInOrder(11));
        Check.due("setCell", 0, x.setCell(0, Integer.MAX_VALUE));
        Check.due("cellInOrder", Integer.MAX_VALUE, x.cellInOrder(0));
        Check.due("registers and cells are not the same", 0, x.registerInOrder(0));
        Check.due("setCell again", Integer.MAX_VALUE, x.setCell(0, 1));
        Check.due("savedStates", 4, x.savedStates());
        for (int wrong : new int[] {-1, 12, Integer.MIN_VALUE, Integer.MAX_VALUE}) {
            Check.throwing(x, "setRegister", IndexOutOfBoundsException.class,
                    () -> x.setRegister(wrong, 0));
            Check.throwing(x, "setCell", IndexOutOfBoundsException.class,
                    () -> x.setCell(wrong, 0));
        }
    }

    private static void units() {
        BuntingBundles x = new BuntingBundles();
        Check.due("setSlots", 2, x.setSlots(0, 4));
        Check.due("setSlots again", 4, x.setSlots(0, 1));
        Check.due("setLatency", 3, x.setLatency(1, 6));
        Check.due("setLatency again", 6, x.setLatency(1, 1));
        Check.due("setDelay", 1, x.setDelay(3));
        Check.due("saved", 5, x.savedStates());
        Check.due("setDelay again", 3, x.setDelay(0));
        for (int wrong : new int[] {-1, 3, Integer.MAX_VALUE}) {
            Check.throwing(x, "unit", IndexOutOfBoundsException.class, () -> x.setSlots(wrong, 0));
            Check.throwing(x, "unit", IndexOutOfBoundsException.class,
                    () -> x.setLatency(wrong, 0));
        }
        for (int wrong : new int[] {0, 5, -1}) {
            Check.throwing(x, "slots", IllegalArgumentException.class, () -> x.setSlots(2, wrong));
        }
        for (int wrong : new int[] {0, 7, -1}) {
            Check.throwing(x, "latency", IllegalArgumentException.class,
                    () -> x.setLatency(2, wrong));
        }
        for (int wrong : new int[] {-1, 4}) {
            Check.throwing(x, "delay", IllegalArgumentException.class, () -> x.setDelay(wrong));
        }
    }

    private static void stepsAsTheyAre() {
        BuntingBundles x = new BuntingBundles();
        int[] reads = {0, 0b1100, 0b1100, 0b1100, 0b1100, 0b100, 0b1100};
        int[] latencies = {1, 1, 1, 3, 1, 2, 1};
        int[] slow = {4, 4, 4, 5, 4, 6, 1};
        for (int kind = 0; kind < 7; kind++) {
            x.insert(kind, kind, 9, 2, 3, 0);
            Check.due("kindOf", kind, x.kindOf(kind));
            Check.due("readBy", reads[kind], x.readBy(kind));
            Check.due("writtenBy", kind == 6 ? BuntingBundles.NONE : 9, x.writtenBy(kind));
            Check.due("latencyOf", latencies[kind], x.latencyOf(kind));
        }
        x.setLatency(0, 4);
        x.setLatency(1, 5);
        x.setLatency(2, 6);
        for (int kind = 0; kind < 7; kind++) {
            Check.due("latencyOf when slow", slow[kind], x.latencyOf(kind));
        }
        Check.due("steps", 7, x.steps());
        x.insert(0, BuntingBundles.ADD, 0, 11, 11, 0);
        Check.due("readBy of one register", 1 << 11, x.readBy(0));
        for (int wrong : new int[] {-1, 8, Integer.MIN_VALUE, Integer.MAX_VALUE}) {
            Check.throwing(x, "kindOf", IndexOutOfBoundsException.class, () -> x.kindOf(wrong));
            Check.throwing(x, "readBy", IndexOutOfBoundsException.class, () -> x.readBy(wrong));
            Check.throwing(x, "writtenBy", IndexOutOfBoundsException.class,
                    () -> x.writtenBy(wrong));
            Check.throwing(x, "latencyOf", IndexOutOfBoundsException.class,
                    () -> x.latencyOf(wrong));
        }
    }

    public static void main(String[] args) {
        newObject();
        insert();
        insertWrong();
        remove();
        exchange();
        values();
        units();
        stepsAsTheyAre();
        Check.finish("StepsTest");
    }
}
