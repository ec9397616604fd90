/** Sentences of the document about undo, the snapshot and exceptions, and of the promises 17 to 20. */
final class UndoEdges {
    private UndoEdges() {
    }

    private static void says(int promise, String words) {
        Check.says(promise, words);
    }

    /** Register 0 set to 1, 2, and so on, one state saved for each. */
    private static BuntingBundles counted(int count) {
        BuntingBundles x = new BuntingBundles();
        for (int value = 1; value <= count; value++) {
            x.setRegister(0, value);
        }
        return x;
    }

    private static void saves(Edge.To before, int more, Edge.To call) {
        BuntingBundles x = Edge.made(before);
        int saved = x.savedStates();
        call.go(x);
        Check.due("saved states", saved + more, x.savedStates());
    }

    // ---- the terms

    private static void eachSaves() {
        says(0, "Each method that is marked \"undoable\" and does not throw an exception saves the state"
                + " from before it (also if it changes nothing):");
        Edge.To[] changes = {x -> x.insert(6, 0, 0, 0, 0, 0), x -> x.remove(5),
            x -> x.exchange(0, 1), x -> x.setRegister(0, 1), x -> x.setCell(0, 1),
            x -> x.setSlots(0, 1), x -> x.setLatency(0, 2), x -> x.setDelay(0), x -> x.lay(0, 4),
            x -> x.takeOut(0), BuntingBundles::pack, BuntingBundles::goBack};
        for (Edge.To change : changes) {
            saves(Edge::rich, 1, change);
            Edge.undoable(Edge::rich, change);
        }
        Edge.To[] sames = {x -> x.exchange(3, 3), x -> x.setRegister(0, 5),
            x -> x.setCell(0, 1000), x -> x.setSlots(0, 2), x -> x.setSlots(2, 2),
            x -> x.setLatency(1, 4), x -> x.setDelay(2), x -> x.lay(0, 3), x -> x.lay(2, 7)};
        for (Edge.To same : sames) {
            saves(Edge::rich, 1, same);
            Edge.undoable(Edge::rich, same);
        }
        saves(x -> { }, 1, BuntingBundles::pack);
        saves(x -> x.pack(), 1, BuntingBundles::pack);
        saves(BuntingBundles::keep, 1, BuntingBundles::goBack);
        saves(x -> {
            x.keep();
            x.goBack();
        }, 1, BuntingBundles::goBack);
        saves(x -> Check.type(x, "a=1"), 1, BuntingBundles::addAll);
        saves(x -> Check.type(x, "a=1;b=2;c=3"), 1, BuntingBundles::addAll);
        saves(Edge::rich, 0, x -> x.append('a'));
        saves(Edge::rich, 0, BuntingBundles::clearBuffer);
        saves(Edge::rich, 0, BuntingBundles::firstError);
        saves(Edge::rich, 0, BuntingBundles::keep);
        saves(Edge::rich, 0, BuntingBundles::savedStates);
        saves(Edge::rich, 0, BuntingBundles::digest);
        saves(Edge::rich, -1, BuntingBundles::undo);
    }

    private static void whatIsSaved() {
        says(0, "all but the buffer, the saved states and the snapshot.");
        BuntingBundles x = Edge.made(Edge::rich);
        x.insert(0, 0, 0, 0, 0, 0);
        Check.type(x, "d");
        x.undo();
        Check.due("the buffer is not brought back", 5, x.clearBuffer());
        x.goBack();
        Check.due("nor by the snapshot", 0, x.clearBuffer());
        x.undo();
        Check.due("nor by undo of that", 0, x.clearBuffer());
        BuntingBundles y = counted(3);
        y.undo();
        y.undo();
        Check.due("the saved states are not brought back", 1, y.savedStates());
        y.keep();
        y.setRegister(0, 50);
        y.keep();
        y.undo();
        y.setRegister(0, 60);
        y.goBack();
        Check.due("nor the snapshot", 50, y.registerInOrder(0));
        BuntingBundles z = new BuntingBundles();
        z.setRegister(0, 1);
        z.keep();
        z.undo();
        Check.due("nor that there was none", 0, z.goBack());
        Check.due("nor that there was none", 1, z.registerInOrder(0));
        eachPartIsSaved();
    }

    private static void eachPartIsSaved() {
        for (int unit = 0; unit < 3; unit++) {
            int u = unit;
            Edge.undoable(Edge::rich, x -> x.setSlots(u, 4));
            Edge.undoable(Edge::rich, x -> x.setLatency(u, 6));
            comesBack(Edge::rich, x -> x.setSlots(u, 4));
            comesBack(Edge::rich, x -> x.setLatency(u, 6));
        }
        for (int place = 0; place < 12; place++) {
            int p = place;
            Edge.undoable(Edge::rich, x -> x.setRegister(p, -99));
            Edge.undoable(Edge::rich, x -> x.setCell(p, -99));
            comesBack(Edge::rich, x -> x.setRegister(p, -99));
            comesBack(Edge::rich, x -> x.setCell(p, -99));
        }
        for (int step = 0; step < 20; step++) {
            int s = step;
            Edge.undoable(UndoEdges::twenty, x -> x.lay(s, 150));
            Edge.undoable(UndoEdges::twenty, x -> x.remove(s));
            comesBack(UndoEdges::twenty, x -> x.lay(s, 150));
            comesBack(UndoEdges::twenty, x -> x.remove(s));
            for (int other = 0; other < 20; other += 5) {
                int o = other;
                Edge.undoable(UndoEdges::twenty, x -> x.exchange(s, o));
                comesBack(UndoEdges::twenty, x -> x.exchange(s, o));
            }
        }
        for (int kind = 0; kind < 7; kind++) {
            int k = kind;
            Edge.undoable(x -> lastOf(x, k), x -> x.exchange(0, 19));
            comesBack(x -> lastOf(x, k), x -> x.exchange(0, 19));
        }
        comesBack(Edge::rich, x -> x.setDelay(3));
    }

    /** Twenty steps, the last of a kind, and few saved states. */
    private static void lastOf(BuntingBundles x, int kind) {
        twenty(x);
        x.remove(19);
        x.insert(19, kind, 3, 4, 5, 88);
        x.lay(19, 190);
    }

    /** What a call changes comes back with the snapshot. */
    private static void comesBack(Edge.To before, Edge.To call) {
        Edge.same("comes back", x -> {
            before.go(x);
            x.keep();
            saveFive(x);
        }, x -> {
            before.go(x);
            x.keep();
            call.go(x);
            x.goBack();
            saveFive(x);
        });
    }

    /** Twenty unlike steps, each laid in a bundle of its own, and few saved states. */
    private static void twenty(BuntingBundles x) {
        for (int i = 0; i < 12; i++) {
            x.setRegister(i, 3 * i * i - 50);
            x.setCell(i, 80 + 9 * i);
        }
        for (int i = 0; i < 20; i++) {
            x.insert(i, i * 3 % 7, (i * 5 + 1) % 12, (i * 7 + 2) % 12, (i * 11 + 3) % 12, 4 * i - 40);
            x.lay(i, 60 + 2 * i);
        }
        x.keep();
        while (x.savedStates() > 0) {
            x.undo();
        }
        x.goBack();
    }

    private static void fiveAtMost() {
        says(0, "At most 5 states are saved;");
        for (int count = 0; count <= 8; count++) {
            Check.due("saved states", Math.min(5, count), counted(count).savedStates());
        }
        says(0, "the oldest one is dropped first.");
        for (int count = 1; count <= 12; count++) {
            BuntingBundles x = counted(count);
            int least = Math.max(0, count - 5);
            for (int value = count - 1; value >= least; value--) {
                Check.due("states left", value - least, x.undo());
                Check.due("the value before", value, x.registerInOrder(0));
            }
            Check.due("no more", 0, x.savedStates());
            Check.yes("undo throws then", Check.thrownBy(x::undo).equals("IllegalStateException"));
            Check.due("the oldest one saved", least, x.registerInOrder(0));
        }
        BuntingBundles y = counted(7);
        y.undo();
        y.undo();
        y.setRegister(0, 70);
        y.setRegister(0, 80);
        y.setRegister(0, 90);
        int[] values = {80, 70, 5, 4, 3};
        Check.due("five again", 5, y.savedStates());
        for (int value : values) {
            y.undo();
            Check.due("the value before", value, y.registerInOrder(0));
        }
    }

    private static void manyRefused() {
        says(0, "A call that throws an exception changes nothing.");
        Edge.To[] befores = {x -> { }, Edge::rich, Edge::full, x -> {
            Edge.full(x);
            Check.type(x, "a=b;");
        }};
        Edge.To[] calls = {x -> x.insert(-1, 0, 0, 0, 0, 0), x -> x.insert(0, 0, 12, 0, 0, 0),
            x -> x.insert(0, 9, 0, 0, 0, 0), x -> x.remove(20), x -> x.exchange(0, 20),
            x -> x.setRegister(12, 4), x -> x.setCell(-1, 4), x -> x.setSlots(3, 1),
            x -> x.setSlots(0, 5), x -> x.setLatency(-1, 1), x -> x.setLatency(0, 7),
            x -> x.setDelay(4), x -> x.lay(20, 0), x -> x.lay(0, 200), x -> x.takeOut(-1),
            x -> x.append(32), BuntingBundles::addAll, x -> x.kindOf(20), x -> x.readBy(20),
            x -> x.writtenBy(20), x -> x.latencyOf(20), x -> x.separation(0, 20),
            x -> x.carried(20, 0), x -> x.heightOf(20), x -> x.earliestOf(20),
            x -> x.bundleOf(20), x -> x.stepsIn(200), x -> x.registerInOrder(12),
            x -> x.registerInBundles(12), x -> x.cellInOrder(12), x -> x.cellInBundles(12),
            x -> x.registerAt(206, 0), x -> x.loopBundleOf(20), x -> x.loopBundles(21),
            x -> x.registerInLoop(21, 0), x -> x.registerInRounds(21, 0), x -> x.cellInLoop(21, 0)};
        for (Edge.To before : befores) {
            Edge.same("what throws changes nothing", before, x -> {
                before.go(x);
                for (Edge.To call : calls) {
                    Check.yes("each call throws", !Check.thrownBy(() -> {
                        call.go(x);
                        return 0;
                    }).isEmpty());
                }
            });
        }
        Edge.refuses(Edge.STATE, Edge::full, x -> x.insert(0, 0, 0, 0, 0, 0));
        Edge.refuses(Edge.STATE, Edge::rich, x -> x.takeOut(1));
        Edge.refuses(Edge.STATE, x -> Check.type(x, "a=1"), BuntingBundles::undo);
        Edge.refuses(Edge.STATE, x -> Check.type(x, "a=1"), BuntingBundles::goBack);
    }

    private static void firstNamed() {
        says(0, "If several exceptions apply, the one that is named first in the throws clause is"
                + " thrown.");
        Edge.refuses(Edge.INDEX, Edge::rich, x -> x.insert(7, 7, 0, 0, 0, 0));
        Edge.refuses(Edge.INDEX, Edge::rich, x -> x.insert(0, 7, 12, 0, 0, 0));
        Edge.refuses(Edge.INDEX, Edge::rich, x -> x.insert(0, 0, 0, 12, 0, 100));
        Edge.refuses(Edge.INDEX, Edge::rich, x -> x.insert(0, 0, 0, 0, -1, -100));
        Edge.refuses(Edge.INDEX, Edge::full, x -> x.insert(21, 0, 0, 0, 0, 0));
        Edge.refuses(Edge.INDEX, Edge::full, x -> x.insert(-1, 0, 0, 0, 0, 0));
        Edge.refuses(Edge.INDEX, Edge::full, x -> x.insert(0, 0, 12, 0, 0, 0));
        Edge.refuses(Edge.INDEX, Edge::full, x -> x.insert(0, 0, 0, 12, 0, 0));
        Edge.refuses(Edge.INDEX, Edge::full, x -> x.insert(0, 0, 0, 0, 12, 0));
        Edge.refuses(Edge.INDEX, Edge::full, x -> x.insert(21, -1, 0, 0, 0, 0));
        Edge.refuses(Edge.ARGUMENT, Edge::full, x -> x.insert(0, 7, 0, 0, 0, 0));
        Edge.refuses(Edge.ARGUMENT, Edge::full, x -> x.insert(0, -1, 0, 0, 0, 0));
        Edge.refuses(Edge.ARGUMENT, Edge::full, x -> x.insert(20, 0, 0, 0, 0, 100));
        Edge.refuses(Edge.ARGUMENT, Edge::full, x -> x.insert(20, 0, 0, 0, 0, -100));
        Edge.refuses(Edge.INDEX, Edge::rich, x -> x.setSlots(3, 0));
        Edge.refuses(Edge.INDEX, Edge::rich, x -> x.setSlots(-1, 5));
        Edge.refuses(Edge.INDEX, Edge::rich, x -> x.setLatency(3, 0));
        Edge.refuses(Edge.INDEX, Edge::rich, x -> x.setLatency(-1, 7));
        Edge.refuses(Edge.INDEX, Edge::rich, x -> x.lay(6, -1));
        Edge.refuses(Edge.INDEX, Edge::rich, x -> x.lay(-1, 200));
        Edge.refuses(Edge.ARGUMENT, UndoEdges::sixty, x -> x.append(32));
        Edge.refuses(Edge.ARGUMENT, UndoEdges::sixty, x -> x.append(127));
        Edge.refuses(Edge.ARGUMENT, x -> {
            Edge.full(x);
            Check.type(x, "a=1;");
        }, BuntingBundles::addAll);
        Edge.refuses(Edge.ARGUMENT, Edge::full, BuntingBundles::addAll);
        Edge.refuses(Edge.INDEX, Edge::rich, x -> x.registerAt(206, 12));
        Edge.refuses(Edge.INDEX, Edge::rich, x -> x.registerAt(-1, -1));
        Edge.refuses(Edge.INDEX, Edge::rich, x -> x.registerInLoop(21, 12));
        Edge.refuses(Edge.INDEX, Edge::rich, x -> x.registerInLoop(-1, -1));
        Edge.refuses(Edge.INDEX, Edge::rich, x -> x.registerInRounds(21, 12));
        Edge.refuses(Edge.INDEX, Edge::rich, x -> x.registerInRounds(-1, -1));
        Edge.refuses(Edge.INDEX, Edge::rich, x -> x.cellInLoop(21, 12));
        Edge.refuses(Edge.INDEX, Edge::rich, x -> x.cellInLoop(-1, -1));
    }

    private static void sixty(BuntingBundles x) {
        for (int length = 0; length < 60; length++) {
            x.append('a');
        }
    }

    // ---- the promises

    private static void undo() {
        says(17, "Restores the latest saved state, and drops it.");
        BuntingBundles x = counted(3);
        x.undo();
        Check.due("the latest", 2, x.registerInOrder(0));
        x.undo();
        Check.due("the one before that", 1, x.registerInOrder(0));
        x.setRegister(0, 9);
        x.undo();
        Check.due("what was undone is gone", 1, x.registerInOrder(0));
        Edge.same("undo of three calls", Edge::rich, y -> {
            Edge.rich(y);
            y.undo();
            y.lay(0, 3);
        });
        BuntingBundles pair = Check.with("a=b*c;d=a+a");
        pair.exchange(0, 1);
        pair.setLatency(1, 6);
        Check.due("told anew", -5, pair.separation(0, 1));
        pair.undo();
        Check.due("told as before", -2, pair.separation(0, 1));
        pair.undo();
        Check.due("told as ahead of that", 3, pair.separation(0, 1));
        Check.due("the loop as ahead of that", 2, pair.beat());
        says(17, "Returns how many saved states are left.");
        BuntingBundles z = counted(9);
        for (int left = 4; left >= 0; left--) {
            Check.due("left", left, z.undo());
            Check.due("savedStates", left, z.savedStates());
        }
        says(17, "Throws `IllegalStateException` if there is none");
        Edge.refuses(Edge.STATE, y -> { }, BuntingBundles::undo);
        Edge.refuses(Edge.STATE, y -> {
            y.setDelay(3);
            y.undo();
        }, BuntingBundles::undo);
        Edge.refuses(Edge.STATE, BuntingBundles::keep, BuntingBundles::undo);
        says(18, "Returns how many states are saved.");
        Check.due("two", 2, counted(2).savedStates());
        Edge.changesNothing(Edge::rich, BuntingBundles::savedStates);
        says(18, "Returns 0 to 5.");
        Check.due("none", 0, new BuntingBundles().savedStates());
        Check.due("four", 4, counted(4).savedStates());
        Check.due("five", 5, counted(5).savedStates());
        Check.due("the most", 5, counted(6).savedStates());
        Check.due("the most", 5, counted(40).savedStates());
    }

    private static void snapshot() {
        says(19, "Takes a snapshot, in place of the one before.");
        BuntingBundles x = counted(1);
        x.keep();
        x.setRegister(0, 2);
        x.keep();
        x.setRegister(0, 3);
        x.goBack();
        Check.due("the latest snapshot", 2, x.registerInOrder(0));
        x.goBack();
        Check.due("the one before is gone", 2, x.registerInOrder(0));
        Edge.changesNothing(y -> {
            Edge.rich(y);
            y.keep();
        }, BuntingBundles::keep);
        BuntingBundles z = Check.with("a=1;b=2");
        z.keep();
        z.lay(0, 4);
        z.exchange(0, 1);
        z.insert(0, 3, 0, 0, 0, 0);
        z.goBack();
        Check.due("later changes are no part of it", -1, z.bundleOf(0));
        Check.due("later changes are no part of it", 0, z.writtenBy(0));
        says(19, "Returns how many steps there are.");
        Check.due("none", 0, new BuntingBundles().keep());
        Check.due("six", 6, Edge.made(Edge::rich).keep());
        Check.due("the most", 20, Edge.made(Edge::full).keep());
    }

    private static void goBack() {
        says(20, "Restores the state of the snapshot, which stays.");
        BuntingBundles x = counted(4);
        x.keep();
        for (int value = 10; value < 14; value++) {
            x.setRegister(0, value);
            x.goBack();
            Check.due("each time", 4, x.registerInOrder(0));
        }
        Edge.same("all but buffer, saved states and snapshot", y -> {
            Edge.rich(y);
            y.keep();
            saveFive(y);
        }, y -> {
            Edge.rich(y);
            y.keep();
            Check.type(y, "d=b*e");
            y.addAll();
            y.setSlots(0, 4);
            y.setLatency(0, 5);
            y.setDelay(0);
            y.setRegister(3, 3);
            y.setCell(3, 3);
            y.lay(0, 44);
            y.takeOut(2);
            y.remove(1);
            y.pack();
            y.goBack();
            Check.type(y, "c=7;");
            saveFive(y);
        });
        BuntingBundles pair = Check.with("a=b*c;d=a+a");
        pair.keep();
        pair.exchange(0, 1);
        Check.due("told anew", -2, pair.separation(0, 1));
        pair.goBack();
        Check.due("told as before", 3, pair.separation(0, 1));
        says(20, "Undoable.");
        Edge.undoable(Edge::rich, BuntingBundles::goBack);
        Edge.undoable(y -> {
            y.keep();
            Edge.rich(y);
        }, BuntingBundles::goBack);
        says(20, "Returns how many steps there are then.");
        BuntingBundles z = new BuntingBundles();
        z.keep();
        z.insert(0, 0, 0, 0, 0, 0);
        Check.due("none", 0, z.goBack());
        BuntingBundles w = Edge.made(Edge::full);
        w.keep();
        w.remove(0);
        Check.due("the most", 20, w.goBack());
        says(20, "Throws `IllegalStateException` if there is no snapshot");
        Edge.refuses(Edge.STATE, y -> { }, BuntingBundles::goBack);
        Edge.refuses(Edge.STATE, y -> y.insert(0, 0, 0, 0, 0, 0), BuntingBundles::goBack);
    }

    /** All that was saved before is dropped. */
    private static void saveFive(BuntingBundles x) {
        for (int turn = 0; turn < 5; turn++) {
            x.exchange(0, 0);
        }
    }

    static void run() {
        eachSaves();
        whatIsSaved();
        fiveAtMost();
        manyRefused();
        firstNamed();
        undo();
        snapshot();
        goBack();
    }
}
