/** Promises 17 to 20, and that each undoable call saves what was before it. */
final class UndoTest {
    /** Makes a new object for each kind of call: what it saves and what undo brings back. */
    private static void undoOf(String what, ToCall toCall) {
        BuntingBundles x = Check.with("a=b*c;d=a+a;[b+1]=d");
        x.keep();
        x.lay(0, 3);
        Check.type(x, "c=7");
        x.undo();
        x.lay(0, 2);
        int saved = x.savedStates();
        long before = x.digest();
        toCall.go(x);
        Check.due(what + " saves", saved + 1, x.savedStates());
        x.clearBuffer();
        Check.type(x, "c=7");
        Check.due("undo of " + what, saved, x.undo());
        Check.due(what + " is undone", before, x.digest());
    }

    interface ToCall {
        void go(BuntingBundles x);
    }

    private static void eachCall() {
        undoOf("insert", x -> x.insert(0, 1, 2, 3, 4, 5));
        undoOf("remove", x -> x.remove(1));
        undoOf("exchange", x -> x.exchange(0, 1));
        undoOf("exchange of the same", x -> x.exchange(0, 0));
        undoOf("setRegister", x -> x.setRegister(1, 4));
        undoOf("setRegister to the same", x -> x.setRegister(1, 0));
        undoOf("setCell", x -> x.setCell(1, 4));
        undoOf("setSlots", x -> x.setSlots(0, 1));
        undoOf("setLatency", x -> x.setLatency(0, 5));
        undoOf("setDelay", x -> x.setDelay(3));
        undoOf("lay", x -> x.lay(0, 5));
        undoOf("lay in the same", x -> x.lay(0, 2));
        undoOf("takeOut", x -> x.takeOut(0));
        undoOf("pack", BuntingBundles::pack);
        undoOf("addAll", BuntingBundles::addAll);
        undoOf("goBack", BuntingBundles::goBack);
        BuntingBundles y = new BuntingBundles();
        Check.due("pack of nothing", 0, y.pack());
        Check.due("pack of nothing saves", 1, y.savedStates());
    }

    private static void fiveAtMost() {
        BuntingBundles x = new BuntingBundles();
        Check.throwing(x, "undo of none", IllegalStateException.class, x::undo);
        for (int i = 1; i <= 7; i++) {
            x.setRegister(0, i);
            Check.due("savedStates", Math.min(5, i), x.savedStates());
        }
        for (int i = 6; i >= 2; i--) {
            Check.due("undo", i - 2, x.undo());
            Check.due("the value before", i, x.registerInOrder(0));
        }
        Check.throwing(x, "undo of a dropped one", IllegalStateException.class, x::undo);
        x.setRegister(0, 50);
        x.setRegister(0, 60);
        x.undo();
        x.setRegister(0, 70);
        Check.due("undo is not undoable", 2, x.savedStates());
        x.undo();
        Check.due("back to the one before", 50, x.registerInOrder(0));
    }

    private static void snapshot() {
        BuntingBundles x = Check.with("a=5;b=6");
        x.lay(1, 9);
        Check.throwing(x, "goBack without a snapshot", IllegalStateException.class, x::goBack);
        int saved = x.savedStates();
        Check.due("keep", 2, x.keep());
        Check.due("keep saves nothing", saved, x.savedStates());
        Check.type(x, "c=7");
        x.addAll();
        x.setSlots(0, 4);
        x.setLatency(1, 6);
        x.setDelay(3);
        x.setCell(4, 4);
        x.append('q');
        Check.due("goBack", 2, x.goBack());
        Check.due("steps", 2, x.steps());
        Check.due("bundle", 9, x.bundleOf(1));
        Check.due("cell", 0, x.cellInOrder(4));
        Check.due("the buffer stays", 1, x.clearBuffer());
        Check.due("goBack is undoable", 4, x.undo());
        Check.due("steps behind undo", 3, x.steps());
        Check.due("delay behind undo", 3, x.setDelay(2));
        Check.due("slots behind undo", 4, x.setSlots(0, 3));
        Check.due("the snapshot stays", 2, x.goBack());
        Check.due("goBack saves all", 2, x.goBack());
        Check.due("latency", 3, x.setLatency(1, 1));
        x.remove(0);
        Check.due("a new snapshot in place of the old one", 1, x.keep());
        x.pack();
        Check.due("goBack to the new one", 1, x.goBack());
        Check.due("its bundle", 9, x.bundleOf(0));
        Check.due("undo leaves the snapshot", 4, x.undo());
        Check.due("goBack once more", 1, x.goBack());
    }

    public static void main(String[] args) {
        eachCall();
        fiveAtMost();
        snapshot();
        Check.finish("UndoTest");
    }
}
