/** Sentences of the document about what steps do, and of the promises 39 to 44. */
final class DoingEdges {
    private DoingEdges() {
    }

    private static void says(int promise, String words) {
        Check.says(promise, words);
    }

    private static BuntingBundles laid(String text, int... bundles) {
        BuntingBundles x = Check.with(text);
        for (int step = 0; step < bundles.length; step++) {
            if (bundles[step] != -1) {
                x.lay(step, bundles[step]);
            }
        }
        return x;
    }

    // ---- the terms

    private static void atFirst() {
        says(0, "To do the bundles means: registers and cells have their values at first;");
        BuntingBundles x = laid("a=1;[b+3]=a", 0, 0);
        for (int i = 0; i < 12; i++) {
            x.setRegister(i, 10 + i);
            x.setCell(i, 30 + i);
        }
        for (int i = 0; i < 12; i++) {
            Check.due("register " + i, 10 + i, x.registerAt(0, i));
            Check.due("register " + i, i == 0 ? 1 : 10 + i, x.registerInBundles(i));
            Check.due("cell " + i, i == 2 ? 10 : 30 + i, x.cellInBundles(i));
        }
        Check.due("asked once more", 10, x.registerAt(0, 0));
        for (int i = 0; i < 12; i++) {
            BuntingBundles y = new BuntingBundles();
            y.setRegister(5, 9);
            y.insert(0, BuntingBundles.SET, i, 0, 0, 7);
            y.insert(1, BuntingBundles.STORE, 0, 4, 5, i);
            for (int bundle = 36; bundle <= 44; bundle++) {
                y.lay(0, bundle);
                y.lay(1, bundle);
                y.registerInLoop(20, i);
                Check.due("whatever was asked ahead", 7, y.registerInBundles(i));
                y.cellInLoop(20, i);
                Check.due("whatever was asked ahead", 9, y.cellInBundles(i));
            }
        }
    }

    private static void beginnings() {
        says(0, "then, bundle by bundle, all steps in it read registers and cells as they are at its"
                + " beginning,");
        BuntingBundles x = laid("a=b+c;b=a+c", 5, 5);
        x.setRegister(0, 3);
        x.setRegister(1, 8);
        Check.due("a of b", 8, x.registerInBundles(0));
        Check.due("b of a", 3, x.registerInBundles(1));
        Check.due("b in order", 8, x.registerInOrder(1));
        BuntingBundles y = laid("[e+0]=a;b=[e+0]", 5, 5);
        y.setRegister(0, 3);
        y.setCell(0, 9);
        Check.due("LOAD beside STORE", 9, y.registerInBundles(1));
        Check.due("STORE beside LOAD", 3, y.cellInBundles(0));
        y.lay(1, 6);
        Check.due("LOAD behind STORE", 3, y.registerInBundles(1));
        y.lay(1, 4);
        Check.due("LOAD ahead of STORE", 9, y.registerInBundles(1));
        BuntingBundles z = laid("e=5;[e+0]=a", 5, 5);
        z.setRegister(0, 3);
        Check.due("the cell by the old register", 3, z.cellInBundles(0));
        Check.due("not by the new one", 0, z.cellInBundles(5));
        z.lay(1, 6);
        Check.due("the cell by the new one", 3, z.cellInBundles(5));
        Check.due("one step ahead of the other", 7, laid("a=b+c;b=7", 9, 0).registerInBundles(0));
        says(0, "and what a step with the latency n in the bundle t writes is there from the beginning"
                + " of the bundle t and n, together, on;");
        for (int latency = 1; latency <= 6; latency++) {
            for (int bundle : new int[] {0, 1, 40, 199}) {
                BuntingBundles w = laid("a=7;b=c*c;d=[c+3];[c+3]=c;e=[c+3]", bundle, bundle, bundle);
                for (int unit = 0; unit < 3; unit++) {
                    w.setLatency(unit, latency);
                }
                w.setRegister(2, 2);
                w.setCell(5, 8);
                int[] registers = {0, 1, 3};
                int[] values = {7, 4, 8};
                for (int i = 0; i < 3; i++) {
                    Check.due("at first", 0, w.registerAt(0, registers[i]));
                    Check.due("just ahead", 0, w.registerAt(bundle + latency - 1, registers[i]));
                    Check.due("from there", values[i], w.registerAt(bundle + latency, registers[i]));
                    Check.due("on", values[i], w.registerAt(205, registers[i]));
                }
            }
            BuntingBundles v = laid("[c+3]=f;e=[c+3]", 0, 1);
            v.setLatency(2, latency);
            v.setRegister(5, 6);
            Check.due("STORE is there one behind", 6, v.registerInBundles(4));
        }
    }

    private static void several() {
        says(0, "of several that write the same at one beginning, what the step with the greatest number"
                + " writes stays.");
        BuntingBundles x = laid("a=5;a=6;a=7", 4, 4, 4);
        Check.due("the third", 7, x.registerInBundles(0));
        x.exchange(0, 2);
        Check.due("the third, exchanged", 5, x.registerInBundles(0));
        BuntingBundles y = laid("a=9;a=b*b", 2, 0);
        y.setRegister(1, 3);
        Check.due("the product, begun first", 9, y.registerAt(3, 0));
        y.setRegister(1, 4);
        Check.due("the product, begun first", 16, y.registerAt(3, 0));
        y.exchange(0, 1);
        Check.due("the number, begun last", 9, y.registerAt(3, 0));
        y.lay(0, 1);
        Check.due("the product is there later", 9, y.registerAt(3, 0));
        Check.due("the product is there later", 16, y.registerAt(4, 0));
        BuntingBundles z = laid("[b+0]=c;[b+0]=d;[e+0]=f", 7, 7, 7);
        for (int i = 2; i < 6; i++) {
            z.setRegister(i, i == 4 ? 12 : i);
        }
        Check.due("the third STORE", 5, z.cellInBundles(0));
        z.lay(0, 8);
        Check.due("the later STORE", 2, z.cellInBundles(0));
        z.takeOut(0);
        z.lay(2, 6);
        Check.due("the later STORE", 3, z.cellInBundles(0));
        says(0, "Steps that are laid in no bundle are not done.");
        Check.due("not laid", 0, Check.with("a=5").registerInBundles(0));
        Check.due("one of two", 6, laid("a=6;a=5", 3, -1).registerInBundles(0));
        BuntingBundles w = laid("[b+0]=c;a=5", 3, 3);
        w.setRegister(2, 4);
        w.takeOut(0);
        w.takeOut(1);
        Check.due("taken out", 0, w.cellInBundles(0));
        Check.due("taken out", 0, w.registerAt(205, 0));
    }

    // ---- promises 39 to 42

    private static void inOrder() {
        says(39, "Returns the value of a register behind all steps, done one after the other.");
        BuntingBundles x = Check.with("a=5;b=a*a;a=b-a;c=a^b;l=c+c");
        int[] want = {20, 25, 25};
        for (int i = 0; i < 3; i++) {
            Check.due("register " + i, want[i], x.registerInOrder(i));
        }
        says(39, "`register`: 0 to 11");
        Edge.takesEach(Edge::rich, BuntingBundles::registerInOrder, 0, 11);
        says(39, "Returns the value.");
        Check.due("the last register", 50, x.registerInOrder(11));
        BuntingBundles once = Check.with("a=a+b");
        once.setRegister(1, 7);
        Check.due("done once", 7, once.registerInOrder(0));
        Check.due("one that none writes", 0, x.registerInOrder(10));
        x.lay(0, 9);
        x.lay(1, 3);
        Check.due("bundles do not count", 25, x.registerInOrder(1));
        Check.due("without steps", 0, new BuntingBundles().registerInOrder(3));
        says(39, "Throws `IndexOutOfBoundsException` if there is no such register");
        Edge.refusesEach(Edge.INDEX, Edge::rich, BuntingBundles::registerInOrder, -1, 12, 24,
                Edge.LEAST, Edge.GREATEST);
        says(41, "Returns the value of a cell behind all steps, done one after the other.");
        BuntingBundles y = Check.with("a=5;[a+0]=a;b=[c+5];[b+6]=b;[b+7]=b");
        Check.due("the cell 5", 5, y.cellInOrder(5));
        Check.due("the cell 11", 5, y.cellInOrder(11));
        BuntingBundles z = Check.with("a=a+b;[c+5]=a");
        z.setRegister(1, 7);
        Check.due("done once", 7, z.cellInOrder(5));
        says(41, "`cell`: 0 to 11");
        Edge.takesEach(Edge::rich, BuntingBundles::cellInOrder, 0, 11);
        says(41, "Returns the value.");
        Check.due("the cell 0", 5, y.cellInOrder(0));
        Check.due("one that none writes", 0, y.cellInOrder(1));
        Check.due("without steps", 0, new BuntingBundles().cellInOrder(3));
        says(41, "Throws `IndexOutOfBoundsException` if there is no such cell");
        Edge.refusesEach(Edge.INDEX, Edge::rich, BuntingBundles::cellInOrder, -1, -12, 12,
                Edge.LEAST, Edge.GREATEST);
    }

    private static void inBundles() {
        says(40, "Returns the value of a register behind all bundles, when all results are there.");
        BuntingBundles x = laid("l=b*b", 199);
        x.setRegister(1, 3);
        x.setLatency(1, 6);
        Check.due("the last result of all", 9, x.registerInBundles(11));
        Check.due("not yet there", 0, x.registerAt(204, 11));
        BuntingBundles y = laid("a=1;a=b*b", 9, 8);
        Check.due("the later result", 0, y.registerInBundles(0));
        says(40, "`register`: 0 to 11");
        Edge.takesEach(Edge::rich, BuntingBundles::registerInBundles, 0, 11);
        says(40, "Returns the value.");
        Check.due("one that none writes", 3, x.registerInBundles(1));
        Check.due("without steps", 0, new BuntingBundles().registerInBundles(3));
        says(40, "Throws `IndexOutOfBoundsException` if there is no such register");
        Edge.refusesEach(Edge.INDEX, Edge::rich, BuntingBundles::registerInBundles, -1, 12, 24,
                Edge.LEAST, Edge.GREATEST);
        says(42, "Returns the value of a cell behind all bundles, when all results are there.");
        BuntingBundles z = laid("[a+11]=b", 199);
        z.setRegister(1, 3);
        Check.due("the last bundle's", 3, z.cellInBundles(11));
        says(42, "`cell`: 0 to 11");
        Edge.takesEach(Edge::rich, BuntingBundles::cellInBundles, 0, 11);
        says(42, "Returns the value.");
        Check.due("one that none writes", 0, z.cellInBundles(10));
        z.lay(0, 0);
        Check.due("the first bundle's", 3, z.cellInBundles(11));
        Check.due("without steps", 0, new BuntingBundles().cellInBundles(3));
        says(42, "Throws `IndexOutOfBoundsException` if there is no such cell");
        Edge.refusesEach(Edge.INDEX, Edge::rich, BuntingBundles::cellInBundles, -1, -12, 12,
                Edge.LEAST, Edge.GREATEST);
    }

    private static void registerAt() {
        says(43, "Returns the value of a register at the beginning of a bundle, as bundles are done.");
        BuntingBundles x = laid("a=1;a=2;a=3;l=b*b", 0, 1, 4, 199);
        x.setRegister(0, 9);
        x.setRegister(1, 5);
        x.setLatency(1, 6);
        int[] want = {9, 1, 2, 2, 2, 3, 3};
        for (int bundle = 0; bundle < want.length; bundle++) {
            Check.due("at " + bundle, want[bundle], x.registerAt(bundle, 0));
        }
        says(43, "`bundle`: 0 to 205");
        Edge.takesEach(Edge::rich, (y, n) -> y.registerAt(n, 0), 0, 199, 200, 204, 205);
        Check.due("at 204", 0, x.registerAt(204, 11));
        Check.due("at 205", 25, x.registerAt(205, 11));
        says(43, "`register`: 0 to 11");
        Edge.takesEach(Edge::rich, (y, n) -> y.registerAt(3, n), 0, 11);
        says(43, "Returns the value.");
        Check.due("without steps", 0, new BuntingBundles().registerAt(205, 0));
        Check.due("of another register", 5, x.registerAt(100, 1));
        says(43, "Throws `IndexOutOfBoundsException` if there is no such register");
        Edge.refusesEach(Edge.INDEX, Edge::rich, (y, n) -> y.registerAt(0, n), -1, 12, Edge.LEAST,
                Edge.GREATEST);
        says(43, "Throws `IllegalArgumentException` if bundle is out of range");
        Edge.refusesEach(Edge.ARGUMENT, Edge::rich, (y, n) -> y.registerAt(n, 11), -1, 206,
                Edge.LEAST, Edge.GREATEST);
    }

    // ---- promise 44

    private static void agreeing() {
        says(44, "Tells whether all registers and cells have the same values behind the bundles as"
                + " behind steps one after the other.");
        for (int i = 0; i < 12; i++) {
            BuntingBundles x = new BuntingBundles();
            x.insert(0, BuntingBundles.SET, i, 0, 0, 5);
            Check.yes("the register " + i + " alone is unlike", !x.doesAgree());
            x.lay(0, i);
            Check.yes("the register " + i + " is alike", x.doesAgree());
            BuntingBundles y = new BuntingBundles();
            y.setRegister(3, -4);
            y.insert(0, BuntingBundles.STORE, 0, 1, 3, i);
            Check.yes("the cell " + i + " alone is unlike", !y.doesAgree());
            y.lay(0, 199);
            Check.yes("the cell " + i + " is alike", y.doesAgree());
        }
        BuntingBundles last = laid("l=b*b", 199);
        last.setLatency(1, 6);
        last.setRegister(1, 3);
        Check.yes("the last result of all counts", last.doesAgree());
        says(44, "Returns true if they have;");
        Check.yes("without steps", new BuntingBundles().doesAgree());
        Check.yes("though none is laid", Check.with("a=0;b=a+a").doesAgree());
        Check.yes("though bundles are wrong", laid("a=0;b=a+a", 5, 5).doesAgree());
        Check.yes("unlike", !laid("a=1;b=a+a", 5, 5).doesAgree());
        says(44, "they do, if the bundles are right.");
        String[] texts = {"a=b*c;d=a+a;a=d-e;[f+1]=a;g=[f+1];[f+2]=g;f=7;h=[f+1]",
            "a=5;b=a*a;c=a+b;a=c-b;[a+3]=b;b=[c+4];[b+3]=a;c=b^a", "a=a*b;a=a+c;b=a*a;b=3;c=b*a;c=c-b",
            "d=a+b;a=b*c;e=1;e=a*a;e=2;[e+0]=d;[d+0]=e;l=[e+0]"};
        for (String text : texts) {
            for (int latency = 1; latency <= 6; latency++) {
                for (int slots = 1; slots <= 4; slots++) {
                    Check.yes("packed: " + text, packed(text, latency, slots).doesAgree());
                }
            }
        }
    }

    private static BuntingBundles packed(String text, int latency, int slots) {
        BuntingBundles x = Check.with(text);
        for (int i = 0; i < 12; i++) {
            x.setRegister(i, 2 * i + 1);
            x.setCell(i, 50 - i);
        }
        for (int unit = 0; unit < 3; unit++) {
            x.setSlots(unit, slots);
            x.setLatency(unit, unit == 1 ? 7 - latency : latency);
        }
        x.pack();
        Check.due("right", 0, x.whyWrong());
        return x;
    }

    private static void nothingIsChanged() {
        says(0, "nothing is changed.");
        Edge.changesNothing(Edge::rich, x -> {
            for (int i = 0; i < 12; i++) {
                x.registerInOrder(i);
                x.registerInBundles(i);
                x.cellInOrder(i);
                x.cellInBundles(i);
                x.registerAt(17 * i, i);
            }
            x.doesAgree();
        });
    }

    static void run() {
        atFirst();
        beginnings();
        several();
        inOrder();
        inBundles();
        registerAt();
        agreeing();
        nothingIsChanged();
    }
}
