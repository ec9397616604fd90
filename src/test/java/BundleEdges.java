/** Sentences of the document about bundles, and of the promises 10 to 12 and 32 to 38. */
final class BundleEdges {
    private BundleEdges() {
    }

    private static void says(int promise, String words) {
        Check.says(promise, words);
    }

    /** Steps laid by hand, -1 for none. */
    private static BuntingBundles laid(String text, int... bundles) {
        BuntingBundles x = Check.with(text);
        for (int step = 0; step < bundles.length; step++) {
            if (bundles[step] != -1) {
                x.lay(step, bundles[step]);
            }
        }
        return x;
    }

    private static BuntingBundles slots(BuntingBundles x, int... slots) {
        for (int unit = 0; unit < slots.length; unit++) {
            x.setSlots(unit, slots[unit]);
        }
        return x;
    }

    private static void wrong(BuntingBundles x, int why, int at) {
        Check.due("whyWrong", why, x.whyWrong());
        Check.due("wrongAt", at, x.wrongAt());
        if (why == 0) {
            Check.yes("right bundles agree", x.doesAgree());
        }
    }

    private static BuntingBundles sets(int count) {
        BuntingBundles x = new BuntingBundles();
        for (int i = 0; i < count; i++) {
            x.insert(i, BuntingBundles.SET, i % 12, 0, 0, i);
        }
        return x;
    }

    private static BuntingBundles products(int latency) {
        BuntingBundles x = new BuntingBundles();
        x.setLatency(1, latency);
        for (int i = 0; i < 20; i++) {
            x.insert(i, BuntingBundles.TIMES, 0, 0, 0, 0);
        }
        return x;
    }

    // ---- the terms

    private static void laidWhere() {
        says(0, "Bundles are numbered from 0.");
        BuntingBundles x = laid("a=1", 0);
        Check.due("the first bundle", 1, x.stepsIn(0));
        Check.due("one bundle", 1, x.bundles());
        says(0, "Each step is laid in a bundle, 0 to 199, or in none.");
        BuntingBundles y = Check.with("a=1;b=2;c=3");
        y.lay(0, 0);
        y.lay(1, 199);
        Check.due("in the first", 0, y.bundleOf(0));
        Check.due("in the last", 199, y.bundleOf(1));
        Check.due("in none", -1, y.bundleOf(2));
        Edge.refusesEach(Edge.ARGUMENT, Edge::rich, (z, n) -> z.lay(0, n), -1, 200);
        says(0, "No bundle that is right breaks a latency.");
        for (int bundle = 0; bundle <= 6; bundle++) {
            BuntingBundles z = laid("a=b*c;d=a+a", 0, bundle);
            z.setLatency(1, 5);
            wrong(z, bundle < 5 ? 3 : 0, bundle < 5 ? 1 : -1);
        }
    }

    private static void reasons() {
        says(0, "The bundles are right, unless (the first of these that holds): 1: a step is laid in"
                + " none;");
        wrong(new BuntingBundles(), 0, -1);
        wrong(laid("a=1", 0), 0, -1);
        wrong(laid("a=1", -1), 1, 0);
        wrong(laid("a=1;b=2;c=3", 0, 1, -1), 1, 2);
        wrong(laid("a=1;b=2;c=3", 0, 0, 0), 2, 0);
        wrong(laid("a=1;b=2;c=3;d=4", 0, 0, 0, -1), 1, 3);
        wrong(laid("a=1;b=a+a;c=3", 0, 0, -1), 1, 2);
        wrong(laid("a=1;b=a+a;c=3", 0, 0, 0), 2, 0);
        says(0, "2: in some bundle there are more steps of a unit than it has slots;");
        String[] texts = {"a=1;b=2;c=3;d=4;e=5", "a=f*f;b=f*f;c=f*f;d=f*f;e=f*f",
            "a=[f+0];b=[f+0];c=[f+0];d=[f+0];e=[f+0]", "[f+0]=g;[f+1]=g;[f+2]=g;[f+3]=g;[f+4]=g"};
        for (int slots = 1; slots <= 4; slots++) {
            for (int text = 0; text < texts.length; text++) {
                BuntingBundles x = laid(texts[text], 5, 5, 5, 5, 5);
                for (int unit = 0; unit < 3; unit++) {
                    x.setSlots(unit, unit == Math.min(text, 2) ? slots : 4);
                }
                while (x.steps() > slots + 1) {
                    x.remove(0);
                }
                wrong(x, 2, 5);
                x.remove(0);
                wrong(x, 0, -1);
            }
        }
        wrong(laid("a=1;b=2;c=f*f;d=[f+0]", 3, 3, 3, 3), 0, -1);
        wrong(laid("a=1;b=2;c=3", 3, 3, 4), 0, -1);
        wrong(laid("a=[f+0];[g+1]=f", 0, 0), 2, 0);
        wrong(laid("a=f*f;b=f*f", 199, 199), 2, 199);
    }

    private static void tooEarly() {
        says(0, "3: a step j hangs on a step i, and its bundle, less that of i, is less than the"
                + " separation.");
        wrong(laid("a=b*c;d=a+a", 0, 3), 0, -1);
        wrong(laid("a=b*c;d=a+a", 0, 2), 3, 1);
        wrong(laid("a=b*c;d=a+a", 196, 199), 0, -1);
        wrong(laid("a=b*c;d=a+a", 197, 199), 3, 1);
        wrong(laid("a=b*c;d=a+a", 9, 0), 3, 1);
        wrong(laid("d=a+b;a=7", 4, 4), 0, -1);
        wrong(laid("d=a+b;a=7", 4, 3), 3, 1);
        wrong(laid("d=a+b;a=b*c", 4, 2), 0, -1);
        wrong(laid("d=a+b;a=b*c", 4, 1), 3, 1);
        wrong(laid("a=1;a=b*c", 1, 0), 0, -1);
        wrong(laid("a=1;a=b*c", 2, 0), 3, 1);
        wrong(laid("[b+0]=c;a=[b+0]", 1, 2), 0, -1);
        wrong(slots(laid("[b+0]=c;a=[b+0]", 1, 1), 2, 1, 2), 3, 1);
        wrong(slots(laid("a=[b+0];[b+0]=c", 1, 1), 2, 1, 2), 0, -1);
        wrong(laid("a=[b+0];[b+0]=c", 2, 1), 3, 1);
        wrong(laid("a=1;b=a+a;c=b+b", 0, 0, 1), 3, 1);
        wrong(laid("a=1;b=a+a;c=b+b", 0, 1, 1), 3, 2);
        wrong(laid("a=1;b=a+a;c=b+b", 0, 1, 2), 0, -1);
        BuntingBundles x = products(1);
        for (int i = 0; i < 20; i++) {
            x.lay(i, i);
        }
        wrong(x, 0, -1);
        x.lay(19, 18);
        wrong(x, 2, 18);
        x.setSlots(1, 2);
        wrong(x, 3, 19);
    }

    private static void packs(BuntingBundles x, int... want) {
        int span = 0;
        for (int bundle : want) {
            span = Math.max(span, bundle + 1);
        }
        Check.due("wouldPack", span, x.wouldPack());
        Check.due("pack", span, x.pack());
        for (int step = 0; step < want.length; step++) {
            Check.due("bundle of " + step + " of " + want.length, want[step], x.bundleOf(step));
        }
        wrong(x, 0, -1);
    }

    private static void packing() {
        says(0, "To pack means: no step is laid at first;");
        packs(laid("a=1;b=2;c=3", 50, 0, 0), 0, 0, 1);
        packs(laid("a=1;b=2;c=3", -1, 7, -1), 0, 0, 1);
        packs(laid("a=b*c;d=a+a", 9, 1), 0, 3);
        says(0, "then, bundle by bundle, from 0 on:");
        packs(Check.with("a=1"), 0);
        packs(Check.with("a=b*c;d=a+a;e=d*d;f=e+e"), 0, 3, 4, 7);
        BuntingBundles x = products(6);
        int[] want = new int[20];
        for (int i = 0; i < 20; i++) {
            want[i] = 6 * i;
        }
        packs(x, want);
        says(0, "as long as there is a step that is not laid, whose unit has a slot free in this bundle,"
                + " all steps on which it hangs being laid, in bundles so that the separations hold,");
        for (int slots = 1; slots <= 4; slots++) {
            int[] bundles = new int[12];
            for (int i = 0; i < 12; i++) {
                bundles[i] = i / slots;
            }
            packs(slots(sets(12), slots), bundles);
        }
        packs(Check.with("a=1;b=2;c=d*d;e=[f+0]"), 0, 0, 0, 0);
        packs(Check.with("[a+0]=b;[a+1]=c;[a+2]=d"), 0, 1, 2);
        packs(Check.with("d=a+b;a=7"), 0, 0);
        packs(slots(Check.with("d=a+b;a=7"), 1), 0, 1);
        packs(slots(Check.with("a=[b+0];[b+0]=c"), 2, 1, 2), 0, 0);
        packs(slots(Check.with("[b+0]=c;a=[b+0]"), 2, 1, 2), 0, 1);
        packs(slots(Check.with("[b+0]=c;a=[b+1]"), 2, 1, 2), 0, 0);
        packs(Check.with("d=a+b;a=b*c"), 0, 0);
        packs(slots(Check.with("e=1;f=e*e;d=a+b;a=b*c"), 1), 0, 1, 1, 2);
        for (int latency = 1; latency <= 6; latency++) {
            BuntingBundles y = Check.with("a=b*c;d=a+a");
            y.setLatency(1, latency);
            packs(y, 0, latency);
        }
    }

    private static void packingByHeights() {
        says(0, "the one with the greatest height of those is laid in it, of several the one with the"
                + " lowest number.");
        packs(slots(Check.with("a=1;b=2;c=b*b"), 1), 1, 0, 1);
        packs(slots(Check.with("a=1;b=2;c=a*a;d=b*b"), 1), 0, 1, 1, 2);
        packs(slots(Check.with("a=1;b=2;c=3"), 1), 0, 1, 2);
        packs(Check.with("a=1;b=2;c=3;d=c*c"), 0, 1, 0, 1);
        packs(Check.with("d=a+b;e=1;a=7;f=a*a"), 0, 1, 0, 1);
        packs(Check.with("a=b*b;c=b*b;d=c*c"), 1, 0, 3);
        packs(Check.with("a=[b+0];c=[b+1];d=c+c;[b+2]=e"), 1, 0, 2, 2);
    }

    // ---- promises 10 and 11

    private static void layAndTakeOut() {
        says(10, "Lays a step in a bundle.");
        BuntingBundles x = Check.with("a=1;b=2");
        x.lay(1, 3);
        Check.due("the step", 3, x.bundleOf(1));
        Check.due("another one", -1, x.bundleOf(0));
        says(10, "Undoable.");
        Edge.undoable(Edge::rich, y -> y.lay(1, 5));
        Edge.undoable(Edge::rich, y -> y.lay(2, 7));
        says(10, "`step`: its number");
        Edge.takesEach(Edge::rich, (y, n) -> y.lay(n, 9), 0, 5);
        says(10, "`bundle`: 0 to 199");
        Edge.takesEach(Edge::rich, (y, n) -> y.lay(0, n), 0, 1, 198, 199);
        says(10, "Returns the bundle before;");
        Check.due("before", 3, x.lay(1, 0));
        Check.due("the first one before", 0, x.lay(1, 199));
        Check.due("the last one before", 199, x.lay(1, 199));
        Check.due("the same before", 199, x.lay(1, 4));
        says(10, "NONE if it was laid in none.");
        Check.due("none before", -1, x.lay(0, 4));
        x.takeOut(0);
        Check.due("none again", -1, x.lay(0, 0));
        says(10, "Throws `IndexOutOfBoundsException` if there is no such step");
        Edge.refusesEach(Edge.INDEX, Edge::rich, (y, n) -> y.lay(n, 0), -1, 6, Edge.LEAST,
                Edge.GREATEST);
        Edge.refusesEach(Edge.INDEX, Edge::full, (y, n) -> y.lay(n, 0), 20);
        Edge.refusesEach(Edge.INDEX, y -> { }, (y, n) -> y.lay(n, 0), 0);
        says(10, "Throws `IllegalArgumentException` if bundle is out of range");
        Edge.refusesEach(Edge.ARGUMENT, Edge::rich, (y, n) -> y.lay(0, n), -1, 200, Edge.LEAST,
                Edge.GREATEST);
        says(11, "Takes a step out of its bundle.");
        BuntingBundles z = laid("a=1;b=2;c=3", 5, 5, 5);
        Check.due("its bundle", 5, z.takeOut(1));
        Check.due("the step", -1, z.bundleOf(1));
        Check.due("the others stay", 5, z.stepsIn(5));
        says(11, "Undoable.");
        Edge.undoable(Edge::rich, y -> y.takeOut(2));
        says(11, "`step`: its number");
        Edge.takesEach(y -> laidIn(y, 0), BuntingBundles::takeOut, 0, 1, 2);
        says(11, "Returns the bundle.");
        for (int bundle : new int[] {0, 1, 198, 199}) {
            Check.due("the bundle", bundle, Edge.made(y -> laidIn(y, bundle)).takeOut(2));
        }
        says(11, "Throws `IndexOutOfBoundsException` if there is no such step");
        Edge.refusesEach(Edge.INDEX, Edge::rich, BuntingBundles::takeOut, -1, 6, Edge.LEAST,
                Edge.GREATEST);
        Edge.refusesEach(Edge.INDEX, Edge::full, BuntingBundles::takeOut, 20);
        Edge.refusesEach(Edge.INDEX, y -> { }, BuntingBundles::takeOut, 0);
        says(11, "Throws `IllegalStateException` if it is laid in none");
        Edge.refusesEach(Edge.STATE, Edge::rich, BuntingBundles::takeOut, 1, 5);
        Edge.refuses(Edge.STATE, y -> {
            laidIn(y, 0);
            y.takeOut(1);
        }, y -> y.takeOut(1));
    }

    private static void laidIn(BuntingBundles x, int bundle) {
        for (int step = 0; step < 3; step++) {
            x.insert(step, 0, 0, 0, 0, 0);
        }
        x.lay(0, 7);
        x.lay(1, 8);
        x.lay(0, bundle);
        x.lay(2, bundle);
    }

    // ---- promises 12 and 37

    private static void pack() {
        says(12, "Packs.");
        packs(Check.with("a=5;b=a*a;c=a+b;a=c-b"), 0, 1, 4, 5);
        says(12, "Undoable.");
        Edge.undoable(Edge::rich, BuntingBundles::pack);
        Edge.undoable(x -> { }, BuntingBundles::pack);
        Edge.undoable(x -> {
            x.insert(0, 0, 0, 0, 0, 0);
            x.pack();
        }, BuntingBundles::pack);
        says(12, "Returns how many bundles there are then: 1 more than the number of the last one with"
                + " a step;");
        Check.due("one step", 1, Check.with("a=1").pack());
        Check.due("two beside", 1, Check.with("a=1;b=2").pack());
        Check.due("with empty ones between", 4, Check.with("a=b*c;d=a+a").pack());
        Check.due("results to come do not count", 1, Check.with("a=b*c").pack());
        Check.due("the most", 115, products(6).pack());
        says(12, "0 without steps.");
        Check.due("none", 0, new BuntingBundles().pack());
        BuntingBundles x = laid("a=1", 9);
        x.remove(0);
        Check.due("none any more", 0, x.pack());
        says(37, "Returns how many bundles packing would make. Returns the bundles.");
        Check.due("none", 0, new BuntingBundles().wouldPack());
        Check.due("none any more", 0, x.wouldPack());
        Check.due("one step", 1, laid("a=1", 9).wouldPack());
        Check.due("with empty ones between", 4, Check.with("a=b*c;d=a+a").wouldPack());
        Check.due("the most", 115, products(6).wouldPack());
        Edge.changesNothing(Edge::rich, BuntingBundles::wouldPack);
    }

    // ---- promises 32 to 36, 38

    private static void looking() {
        says(32, "Returns the bundle of a step.");
        BuntingBundles x = laid("a=1;b=2;c=3", 199, -1, 0);
        Check.due("the last", 199, x.bundleOf(0));
        says(32, "`step`: its number");
        Edge.takesEach(Edge::rich, BuntingBundles::bundleOf, 0, 5);
        says(32, "Returns the bundle;");
        Check.due("the first", 0, x.bundleOf(2));
        says(32, "NONE if it is laid in none.");
        Check.due("none", -1, x.bundleOf(1));
        x.takeOut(0);
        Check.due("none any more", -1, x.bundleOf(0));
        says(32, "Throws `IndexOutOfBoundsException` if there is no such step");
        Edge.refusesEach(Edge.INDEX, Edge::rich, BuntingBundles::bundleOf, -1, 6, Edge.LEAST,
                Edge.GREATEST);
        Edge.refusesEach(Edge.INDEX, Edge::full, BuntingBundles::bundleOf, 20);
        Edge.refusesEach(Edge.INDEX, y -> { }, BuntingBundles::bundleOf, 0);
        says(33, "Returns the steps of a bundle.");
        BuntingBundles z = laid("a=1;b=2;c=3;d=4", 199, 0, 199, -1);
        Check.due("of the last", 5, z.stepsIn(199));
        says(33, "`bundle`: 0 to 199");
        Edge.takesEach(Edge::rich, BuntingBundles::stepsIn, 0, 199);
        says(33, "Returns the set of steps.");
        Check.due("of the first", 2, z.stepsIn(0));
        Check.due("of an empty one", 0, z.stepsIn(1));
        Check.due("without steps", 0, new BuntingBundles().stepsIn(0));
        BuntingBundles all = sets(20);
        for (int i = 0; i < 20; i++) {
            all.lay(i, 8);
        }
        Check.due("of all", (1 << 20) - 1, all.stepsIn(8));
        all.remove(0);
        Check.due("of all but one", (1 << 19) - 1, all.stepsIn(8));
        says(33, "Throws `IllegalArgumentException` if bundle is out of range");
        Edge.refusesEach(Edge.ARGUMENT, Edge::rich, BuntingBundles::stepsIn, -1, 200, 205,
                Edge.LEAST, Edge.GREATEST);
        Edge.refusesEach(Edge.ARGUMENT, y -> { }, BuntingBundles::stepsIn, -1, 200);
        says(34, "Returns how many bundles there are. Returns 1 more than the number of the last one"
                + " with a step;");
        Check.due("the last", 200, z.bundles());
        Check.due("the first", 1, laid("a=1;b=2", 0, -1).bundles());
        Check.due("with empty ones ahead", 8, laid("a=1;b=2", 7, 3).bundles());
        says(34, "0 without such a one.");
        Check.due("no steps", 0, new BuntingBundles().bundles());
        Check.due("none is laid", 0, Check.with("a=1").bundles());
        z.takeOut(0);
        z.takeOut(2);
        Check.due("taken out", 1, z.bundles());
        z.takeOut(1);
        Check.due("all taken out", 0, z.bundles());
    }

    private static void whyAndWhere() {
        says(35, "Tells why the bundles are wrong. Returns 1 to 3, as told;");
        Check.due("1", 1, Check.with("a=1").whyWrong());
        Check.due("2", 2, laid("a=1;b=2;c=3", 9, 9, 9).whyWrong());
        Check.due("3", 3, laid("a=1;b=a+a", 9, 9).whyWrong());
        Check.due("1 ahead of 2", 1, laid("a=1;b=2;c=3;d=4", 9, 9, 9, -1).whyWrong());
        Check.due("1 ahead of 3", 1, laid("a=1;b=a+a;c=1", 9, 9, -1).whyWrong());
        Check.due("2 ahead of 3", 2, laid("a=1;b=a+a;c=1", 9, 9, 9).whyWrong());
        says(35, "0 if they are right.");
        Check.due("no steps", 0, new BuntingBundles().whyWrong());
        Check.due("far apart", 0, laid("a=1;b=a+a", 0, 199).whyWrong());
        says(36, "Tells where they are wrong. Returns for the reason 1 the lowest step, for 2 the lowest"
                + " bundle, for 3 the lowest step j, as told;");
        Check.due("the lowest step", 1, laid("a=1;b=2;c=3;d=4", 9, -1, 8, -1).wrongAt());
        Check.due("the first step", 0, laid("a=1;b=2", -1, 5).wrongAt());
        Check.due("the last step", 19, lastNotLaid().wrongAt());
        Check.due("the lowest bundle", 4, laid("a=1;b=2;c=3;d=e*e;f=e*e", 9, 9, 9, 4, 4).wrongAt());
        Check.due("the lowest bundle", 4, laid("d=e*e;f=e*e;a=1;b=2;c=3", 4, 4, 9, 9, 9).wrongAt());
        Check.due("the bundle 0", 0, laid("a=1;b=2;c=3;d=e*e;f=e*e", 0, 0, 0, 4, 4).wrongAt());
        Check.due("the bundle 199", 199, laid("d=e*e;f=e*e", 199, 199).wrongAt());
        Check.due("the lowest step j", 2, laid("a=1;b=2;c=b+b;d=a+a", 8, 9, 9, 8).wrongAt());
        Check.due("whatever i", 2, slots(laid("a=1;b=2;c=b+b;d=a+a", 8, 8, 8, 7), 4)
                .wrongAt());
        says(36, "NONE if they are right.");
        Check.due("no steps", -1, new BuntingBundles().wrongAt());
        Check.due("far apart", -1, laid("a=1;b=a+a", 0, 199).wrongAt());
    }

    private static BuntingBundles lastNotLaid() {
        BuntingBundles x = sets(20);
        for (int i = 0; i < 19; i++) {
            x.lay(i, i);
        }
        return x;
    }

    private static void share(double want, BuntingBundles x) {
        Check.due("filledShare " + want + ", " + x.filledShare(), Double.doubleToLongBits(want),
                Double.doubleToLongBits(x.filledShare()));
    }

    private static void shares() {
        says(38, "Returns which share of the slots in bundles() bundles is taken.");
        share(0.25, laid("a=1", 0));
        share(0.5, laid("a=1;b=2;c=d*d;e=[d+0]", 1, 1, 0, 0));
        share(1.0, laid("a=1;b=2;c=d*d;e=[d+0]", 0, 0, 0, 0));
        says(38, "Returns the steps that are laid, as a double, divided by the slots of all units in all"
                + " these bundles;");
        share(1.0 / 12, laid("a=1;b=2", 2, -1));
        share(2.0 / 12, laid("a=1;b=2", 2, 0));
        share(1.0 / 800, laid("a=1", 199));
        share(1.0 / 2400, slots(laid("a=1", 199), 4, 4, 4));
        share(1.0 / 3, slots(laid("a=1", 0), 1, 1, 1));
        BuntingBundles x = slots(sets(20), 1, 1, 1);
        for (int i = 0; i < 20; i++) {
            x.lay(i, 0);
            share((i + 1) / 3.0, x);
        }
        says(38, "0.0 without bundles.");
        share(0.0, new BuntingBundles());
        share(0.0, sets(20));
        BuntingBundles y = laid("a=1", 3);
        y.takeOut(0);
        share(0.0, y);
    }

    private static void nothingIsChanged() {
        says(0, "nothing is changed.");
        Edge.changesNothing(Edge::rich, x -> {
            for (int i = 0; i < 6; i++) {
                x.bundleOf(i);
            }
            x.stepsIn(7);
            x.bundles();
            x.whyWrong();
            x.wrongAt();
            x.wouldPack();
            x.filledShare();
        });
        Edge.changesNothing(x -> {
            Edge.rich(x);
            x.pack();
            x.undo();
        }, BuntingBundles::whyWrong);
    }

    static void run() {
        laidWhere();
        reasons();
        tooEarly();
        packing();
        packingByHeights();
        layAndTakeOut();
        pack();
        looking();
        whyAndWhere();
        shares();
        nothingIsChanged();
    }
}
