/** Sentences of the document about what hangs on what, heights, and the promises 26 to 31. */
final class HangingEdges {
    private HangingEdges() {
    }

    private static void says(int promise, String words) {
        Check.says(promise, words);
    }

    private static BuntingBundles with(String text, int... latencies) {
        BuntingBundles x = Check.with(text);
        for (int unit = 0; unit < latencies.length; unit++) {
            x.setLatency(unit, latencies[unit]);
        }
        return x;
    }

    private static void near(String text, int i, int j, int want, int... latencies) {
        Check.due("separation " + i + ", " + j + " in " + text, want,
                with(text, latencies).separation(i, j));
    }

    private static void over(String text, int i, int j, int want, int... latencies) {
        Check.due("carried " + i + ", " + j + " in " + text, want,
                with(text, latencies).carried(i, j));
    }

    // ---- in one round

    private static void several() {
        says(0, "A step j hangs on a step i that comes ahead of it, with a separation, if one of these"
                + " holds (the greatest separation, if several do):");
        near("a=b*c;d=a+a", 0, 1, 3);
        near("a=b*c;d=a+a", 1, 0, Edge.FREE);
        near("a=a*a", 0, 0, Edge.FREE);
        near("[b+1]=c", 0, 0, Edge.FREE);
        near("a=1;b=2", 0, 1, Edge.FREE);
        near("a=a*b;a=a*c", 0, 1, 3);
        near("a=a*b;a=a*c", 0, 1, 5, 1, 5, 1);
        near("a=a*c;a=b*d", 0, 1, 1);
        near("a=a+c;a=b*d", 0, 1, -1);
        near("[a+1]=b;a=[a+1]", 0, 1, 1);
        near("[a+1]=b;b=[a+1]", 0, 1, 1, 1, 3, 6);
        near("a=[b+1];[b+1]=a", 0, 1, 2);
        near("a=[b+1];[b+1]=a", 0, 1, 6, 1, 3, 6);
        near("a=[a+1];[a+2]=b", 0, 1, 2);
    }

    private static void writeThenRead() {
        says(0, "i writes a register that j reads, and no step between them writes it: the latency of"
                + " i;");
        near("a=1;d=a*b", 0, 1, 1);
        near("a=1;d=b*a", 0, 1, 1);
        near("a=1;d=b*a", 0, 1, 6, 6, 3, 2);
        near("a=b*c;[a+1]=d", 0, 1, 3);
        near("a=b*c;[d+1]=a", 0, 1, 3);
        near("a=b*c;d=[a+1]", 0, 1, 3);
        near("a=[b+1];d=a*e", 0, 1, 2);
        near("a=b^c;d=a*e", 0, 1, 1);
        near("a=b-c;d=a*e", 0, 1, 1);
        near("l=b+c;d=e*l", 0, 1, 1);
        near("a=b*c;a=7;d=a+e", 0, 2, Edge.FREE);
        near("a=b*c;a=7;d=a+e", 1, 2, 1);
        near("a=b*c;e=a+a;d=a+e", 0, 2, 3);
        near("a=b*c;[a+1]=a;d=a+e", 0, 2, 3);
        near("a=1;a=b*c;d=a+e", 1, 2, 3);
        near("a=b*c;d=a+e;a=1", 0, 1, 3);
        near("a=b*c;a=a+e;d=a+e", 0, 1, 3);
        near("a=b*c;e=1;f=2;a=3;d=a+e", 0, 4, Edge.FREE);
        near("a=b*c;e=1;f=2;g=3;d=a+e", 0, 4, 3);
        BuntingBundles x = Check.with("a=b*c;d=a+e");
        x.insert(1, BuntingBundles.STORE, 0, 5, 5, 0);
        Check.due("STORE does not write its target", 3, x.separation(0, 2));
        BuntingBundles y = new BuntingBundles();
        y.insert(0, BuntingBundles.STORE, 0, 5, 5, 0);
        y.insert(1, BuntingBundles.ADD, 3, 0, 0, 0);
        Check.due("nor does one that comes ahead", Edge.FREE, y.separation(0, 1));
        BuntingBundles z = Check.with("a=b*c");
        z.insert(1, BuntingBundles.SET, 3, 0, 0, 5);
        z.insert(2, BuntingBundles.LOAD, 4, 5, 0, 5);
        Check.due("SET reads no register", Edge.FREE, z.separation(0, 1));
        Check.due("LOAD does not read two", Edge.FREE, z.separation(0, 2));
    }

    private static void readThenWrite() {
        says(0, "i reads a register that j writes: 1 less the latency of j;");
        near("d=a+b;a=7", 0, 1, 0);
        near("d=a+b;b=7", 0, 1, 0);
        near("d=a+b;a=[e+1]", 0, 1, -1);
        near("d=a+b;a=c*c", 0, 1, -2);
        near("d=a+b;a=c*c", 0, 1, -5, 1, 6, 2);
        near("d=a+b;a=c*c", 0, 1, 0, 6, 1, 2);
        near("d=[a+1];a=c*c", 0, 1, -2);
        near("[a+1]=b;a=c*c", 0, 1, -2);
        near("[a+1]=b;b=c*c", 0, 1, -2);
        near("d=a+b;a=3;a=c*c", 0, 2, -2);
        near("d=a+b;e=a+a;a=c*c", 0, 2, -2);
        near("d=1;a=c*c", 0, 1, Edge.FREE);
        BuntingBundles x = new BuntingBundles();
        x.insert(0, BuntingBundles.LOAD, 1, 2, 3, 0);
        x.insert(1, BuntingBundles.ADD, 3, 4, 4, 0);
        Check.due("LOAD does not read two", Edge.FREE, x.separation(0, 1));
        BuntingBundles y = new BuntingBundles();
        y.insert(0, BuntingBundles.ADD, 1, 2, 3, 0);
        y.insert(1, BuntingBundles.STORE, 2, 4, 4, 0);
        Check.due("STORE does not write its target", Edge.FREE, y.separation(0, 1));
    }

    private static void bothWrite() {
        says(0, "both write the same register: the latency of i and 1, together, less the latency of"
                + " j;");
        near("a=1;a=2", 0, 1, 1);
        near("a=b*c;a=1", 0, 1, 3);
        near("a=1;a=b*c", 0, 1, -1);
        near("a=1;a=b*c", 0, 1, -4, 1, 6, 2);
        near("a=b*c;a=1", 0, 1, 6, 1, 6, 2);
        near("a=b*c;a=[d+1]", 0, 1, 2);
        near("a=[d+1];a=b*c", 0, 1, 0);
        near("a=b*c;a=7;a=d*e", 0, 2, 1);
        near("a=b*c;d=a+a;a=d*e", 0, 2, 1);
        near("l=b*c;l=1", 0, 1, 3);
        BuntingBundles x = new BuntingBundles();
        x.insert(0, BuntingBundles.STORE, 1, 2, 3, 0);
        x.insert(1, BuntingBundles.SET, 1, 0, 0, 0);
        x.insert(2, BuntingBundles.STORE, 1, 4, 4, 0);
        Check.due("STORE does not write its target", Edge.FREE, x.separation(0, 1));
        Check.due("STORE does not write its target", Edge.FREE, x.separation(1, 2));
    }

    private static void bothMeet() {
        says(0, "both are LOAD or STORE, at least one of them is STORE, and they are not apart: 0, if i"
                + " is LOAD, otherwise 1.");
        near("a=[b+1];[b+1]=c", 0, 1, 0);
        near("[b+1]=c;a=[b+1]", 0, 1, 1);
        near("[b+1]=c;[b+1]=d", 0, 1, 1);
        near("a=[b+1];c=[b+1]", 0, 1, Edge.FREE);
        near("[b+1]=c;a=[b+1]", 0, 1, 1, 6, 6, 6);
        near("a=[b+1];[b+1]=c", 0, 1, 0, 6, 6, 6);
        near("a=[b+1];[c+1]=d", 0, 1, 0);
        near("[b+1]=c;[d+2]=e", 0, 1, 1);
        near("[b+1]=c;a=d+e", 0, 1, Edge.FREE);
        near("a=d+e;[b+1]=c", 0, 1, Edge.FREE);
        near("a=d*e;f=[b+1]", 0, 1, Edge.FREE);
        near("[b+1]=c;f=1;g=2;a=[b+1]", 0, 3, 1);
        near("[b+1]=c;[b+1]=d;a=[b+1]", 0, 2, 1);
    }

    /** The number of two steps at one register that are a STORE and a LOAD. */
    private static void numbers(int first, int second, boolean areAlike) {
        BuntingBundles x = new BuntingBundles();
        x.insert(0, BuntingBundles.STORE, 0, 1, 2, first);
        x.insert(1, BuntingBundles.LOAD, 4, 1, 0, second);
        Check.due(first + " and " + second, areAlike ? 1 : Edge.FREE, x.separation(0, 1));
    }

    private static void apart() {
        says(0, "They are apart, if both have the same register one, neither i nor a step between them"
                + " writes it, and their numbers leave unlike numbers, divided by 12 (0 to 11).");
        near("a=[b+1];[b+2]=c", 0, 1, Edge.FREE);
        near("[b+1]=c;a=[b+2]", 0, 1, Edge.FREE);
        near("[b+1]=c;[b+0]=d", 0, 1, Edge.FREE);
        near("[b+1]=c;a=[d+2]", 0, 1, 1);
        near("b=[b+1];[b+2]=c", 0, 1, 2);
        near("b=[b+1];c=1;[b+2]=c", 0, 2, 2);
        near("b=[b+1];b=5;[b+2]=c", 0, 2, 0);
        near("[b+1]=c;b=5;a=[b+2]", 0, 2, 1);
        near("[b+1]=c;d=5;b=6;e=7;a=[b+2]", 0, 4, 1);
        near("[b+1]=c;d=5;e=7;a=[b+2]", 0, 3, Edge.FREE);
        near("b=5;[b+1]=c;a=[b+2]", 1, 2, Edge.FREE);
        near("[b+1]=c;a=[b+2];b=5", 0, 1, Edge.FREE);
        near("[b+1]=c;b=[b+2]", 0, 1, -1);
        near("a=[a+1];[b+2]=c", 0, 1, 0);
        near("[b+1]=b;[b+2]=b", 0, 1, Edge.FREE);
        numbers(3, -9, true);
        numbers(-9, 3, true);
        numbers(3, -8, false);
        numbers(-1, 11, true);
        numbers(-1, 1, false);
        numbers(-1, -13, true);
        numbers(-99, 9, true);
        numbers(-99, -3, true);
        numbers(-99, 3, false);
        numbers(99, 3, true);
        numbers(99, -99, false);
        numbers(0, 12, true);
        numbers(0, -12, true);
        numbers(11, 12, false);
        BuntingBundles x = new BuntingBundles();
        x.insert(0, BuntingBundles.STORE, 1, 1, 2, 3);
        x.insert(1, BuntingBundles.STORE, 1, 5, 5, 3);
        x.insert(2, BuntingBundles.LOAD, 4, 1, 0, 4);
        Check.due("STORE does not write its target", Edge.FREE, x.separation(0, 2));
    }

    // ---- heights and earliest bundles

    private static void heights() {
        says(0, "The height of a step is the greatest one of its latency and, for each step that hangs"
                + " on it, the separation and the height of that one, together.");
        due(Check.with("a=b*c"), true, 3);
        due(Check.with("a=b*c;d=1"), true, 3, 1);
        due(Check.with("a=5;b=a*a;c=a+b;a=c-b"), true, 6, 5, 2, 1);
        due(Check.with("d=a+b;a=b*c"), true, 1, 3);
        due(Check.with("d=a+b;a=b*c;e=a+a"), true, 2, 4, 1);
        due(with("d=a*b;a=b*c", 1, 6, 2), true, 6, 6);
        due(Check.with("a=1;b=a+a;c=a*a"), true, 4, 1, 3);
        due(Check.with("a=[b+1];[b+1]=c"), true, 2, 1);
        due(Check.with("[b+1]=c;a=[b+1]"), true, 3, 2);
        due(Check.with("d=a+b;a=7;f=a*a"), true, 4, 4, 3);
        due(Check.with("d=a+b;a=[g+1];e=a*a"), true, 4, 5, 3);
        BuntingBundles first = twenty(6);
        first.remove(0);
        first.insert(0, BuntingBundles.SET, 11, 0, 0, 0);
        due(first, true, 1, 114);
        says(0, "The earliest bundle of a step is the greatest one of 0 and, for each step on which it"
                + " hangs, the earliest bundle of that one and the separation, together.");
        due(Check.with("a=b*c"), false, 0);
        due(Check.with("a=5;b=a*a;c=a+b;a=c-b"), false, 0, 1, 4, 5);
        due(Check.with("d=a+b;a=b*c"), false, 0, 0);
        due(Check.with("a=f*g;d=a+b;a=b*c"), false, 0, 3, 1);
        due(with("d=a+b;a=b*c", 1, 6, 2), false, 0, 0);
        due(Check.with("a=1;b=2;c=a+b;d=c+b"), false, 0, 0, 1, 2);
        due(Check.with("[b+1]=c;a=[b+1];[b+1]=a"), false, 0, 1, 3);
        due(Check.with("b=f*f;a=[b+1];[g+1]=c"), false, 0, 3, 3);
        due(Check.with("b=f*f;d=b+a;a=[g+1]"), false, 0, 3, 2);
        BuntingBundles last = twenty(6);
        last.remove(0);
        last.insert(19, BuntingBundles.SET, 11, 0, 0, 0);
        Check.due("hangs on none", 0, last.earliestOf(19));
        Check.due("the last that hangs", 108, last.earliestOf(18));
    }

    private static void due(BuntingBundles x, boolean areHeights, int... want) {
        for (int step = 0; step < want.length; step++) {
            Check.due((areHeights ? "height of " : "earliest of ") + step + " of " + want.length,
                    want[step], areHeights ? x.heightOf(step) : x.earliestOf(step));
        }
    }

    // ---- from round to round

    private static void carriedAtAll() {
        says(0, "In it a step j hangs on a step i of the round before (also on itself, or on one behind"
                + " it), with a carried separation, if one of these holds (the greatest one, if several"
                + " do):");
        over("a=a*b", 0, 0, 3);
        over("a=1", 0, 0, 1);
        over("[b+1]=c", 0, 0, 1);
        over("a=[b+1]", 0, 0, 1);
        over("a=b*c;d=a+a", 0, 0, 1);
        over("d=a+a;a=b*c", 1, 0, 3);
        over("d=a+a;a=b*c", 0, 1, -2);
        over("a=b*c;d=a+a", 1, 0, -2);
        over("a=b*c;d=a+a", 0, 1, Edge.FREE);
        over("a=1;b=2", 0, 1, Edge.FREE);
        over("a=1;b=2", 1, 0, Edge.FREE);
        over("a=a*c;a=b*d", 1, 0, 3);
        over("a=a*c;a=b*d", 0, 1, 1);
        over("b=[a+1];[a+1]=b", 1, 0, 1);
        over("a=[a+1]", 0, 0, 2);
    }

    private static void carriedReading() {
        says(0, "i writes a register that j reads, no step behind i writes it, and none ahead of j (i"
                + " itself does, if it is ahead of j): the latency of i;");
        over("d=a+a;a=b*c", 1, 0, 3);
        over("d=e+a;a=b*c", 1, 0, 6, 1, 6, 2);
        over("[d+1]=a;a=b*c", 1, 0, 3);
        over("d=a+a;a=b*c;a=5", 1, 0, Edge.FREE);
        over("d=a+a;a=b*c;a=5", 2, 0, 1);
        over("d=a+a;a=b*c;e=5", 1, 0, 3);
        over("d=a+a;a=b*c;e=5;a=5", 1, 0, Edge.FREE);
        over("a=5;d=a+a;a=b*c", 2, 1, Edge.FREE);
        over("a=5;e=6;d=a+a;a=b*c", 3, 2, Edge.FREE);
        over("e=5;d=a+a;a=b*c", 2, 1, 3);
        over("d=a+a;a=5;a=b*c", 2, 0, 3);
        over("a=b*c;d=a+a", 0, 1, Edge.FREE);
        over("a=a*c;d=1", 0, 0, 3);
        over("a=a*c;a=1", 0, 0, 1);
        over("a=1;a=a*c", 1, 1, 1);
        over("a=a+c;e=1;a=b*d", 2, 0, 3);
        BuntingBundles x = Check.with("d=a+a;a=b*c");
        x.insert(2, BuntingBundles.STORE, 0, 5, 5, 0);
        x.insert(0, BuntingBundles.STORE, 0, 5, 5, 0);
        Check.due("STORE does not write its target", 3, x.carried(2, 1));
    }

    private static void carriedOthers() {
        says(0, "i reads a register that j writes: 1 less the latency of j; both write the same"
                + " register: the latency of i and 1, together, less the latency of j; both are LOAD or"
                + " STORE, and at least one is STORE: 0, if i is LOAD, otherwise 1.");
        over("a=b*c;d=a+a", 1, 0, -2);
        over("a=b*c;d=a+a", 1, 0, -5, 1, 6, 2);
        over("a=7;d=a+a", 1, 0, 0);
        over("a=7;a=8;d=a+a", 2, 0, 0);
        over("d=a+a;a=7;a=b*c", 0, 2, -2);
        over("d=a*b;a=[e+1]", 0, 1, -1);
        over("a=b*c;a=5", 0, 1, 3);
        over("a=b*c;a=5", 1, 0, -1);
        over("a=b*c;a=5", 0, 0, 1);
        over("a=b*c;a=5", 1, 0, -4, 1, 6, 2);
        over("a=b*c;a=5", 0, 1, 6, 1, 6, 2);
        over("a=b*c;a=6;a=5", 0, 2, 3);
        over("[b+1]=c;d=[b+1]", 0, 1, 1);
        over("[b+1]=c;d=[b+1]", 1, 0, 0);
        over("[b+1]=c;d=[b+2]", 0, 1, 1);
        over("[b+1]=c;d=[b+2]", 1, 0, 0);
        over("[b+1]=c;[b+2]=d", 0, 1, 1);
        over("[b+1]=c;[b+2]=d", 1, 0, 1);
        over("[b+1]=c;[e+2]=d", 1, 1, 1);
        over("a=[b+1];c=[b+1]", 0, 1, Edge.FREE);
        over("a=[b+1];c=[b+1]", 1, 0, Edge.FREE);
        over("[b+1]=c;a=d*d", 0, 1, Edge.FREE);
        over("a=d*d;[b+1]=c", 0, 1, Edge.FREE);
        over("[b+1]=c;a=[b+1]", 0, 1, 1, 6, 6, 6);
    }

    // ---- promises 26 to 31

    private static void separation() {
        says(26, "Returns the separation with which a step hangs on another one.");
        near("a=b*c;d=a+a;e=d*d", 0, 1, 3);
        near("a=b*c;d=a+a;e=d*d", 1, 2, 1);
        near("a=b*c;d=a+a;e=d*d", 0, 2, Edge.FREE);
        says(26, "`step`: the one on which it may hang");
        Edge.takesEach(Edge::rich, (x, n) -> x.separation(n, 5), 0, 5);
        near("a=b*c;a=1", 0, 1, 3);
        says(26, "`other`: the one that may hang on it");
        Edge.takesEach(Edge::rich, (x, n) -> x.separation(0, n), 0, 5);
        near("a=1;a=b*c", 0, 1, -1);
        says(26, "Returns the separation; FREE if it does not, or does not come behind it.");
        near("a=b*c;d=e+f", 0, 1, Edge.FREE);
        near("a=b*c;a=a*a", 1, 0, Edge.FREE);
        near("a=a*a;a=a*a", 1, 1, Edge.FREE);
        BuntingBundles x = new BuntingBundles();
        for (int step = 0; step < 20; step++) {
            x.insert(step, BuntingBundles.TIMES, 0, 0, 0, 0);
        }
        for (int i = 0; i < 20; i++) {
            Check.due("of 20, " + i, i == 19 ? Edge.FREE : i == 18 ? 3 : 1, x.separation(i, 19));
            Check.due("of 20, turned, " + i, Edge.FREE, x.separation(19, i));
        }
        says(26, "Throws `IndexOutOfBoundsException` if there is no such step");
        Edge.refusesEach(Edge.INDEX, Edge::rich, (y, n) -> y.separation(n, 0), -1, 6, 20,
                Edge.LEAST, Edge.GREATEST);
        Edge.refusesEach(Edge.INDEX, Edge::rich, (y, n) -> y.separation(0, n), -1, 6, 20,
                Edge.LEAST, Edge.GREATEST);
        Edge.refusesEach(Edge.INDEX, Edge::full, (y, n) -> y.separation(n, n), -1, 20);
        Edge.refusesEach(Edge.INDEX, y -> { }, (y, n) -> y.separation(n, n), 0);
    }

    private static void carried() {
        says(27, "Returns the carried separation with which a step hangs on another one, or itself, in"
                + " the loop.");
        over("e=a+a;a=b*c;b=e*c", 1, 0, 3);
        over("e=a+a;a=b*c;b=e*c", 2, 1, 3);
        over("a=a*a", 0, 0, 3);
        says(27, "`step`: the one on which it may hang");
        Edge.takesEach(Edge::rich, (x, n) -> x.carried(n, 5), 0, 5);
        over("a=b*c;a=1", 0, 1, 3);
        says(27, "`other`: the one that may hang on it");
        Edge.takesEach(Edge::rich, (x, n) -> x.carried(0, n), 0, 5);
        over("a=b*c;a=1", 1, 0, -1);
        says(27, "Returns the separation; FREE if it does not.");
        over("a=b*c;d=e+f", 0, 1, Edge.FREE);
        over("a=b*c;d=e+f", 1, 0, Edge.FREE);
        BuntingBundles x = new BuntingBundles();
        for (int step = 0; step < 20; step++) {
            x.insert(step, BuntingBundles.TIMES, 0, 0, 0, 0);
        }
        Check.due("the first on the last of 20", 3, x.carried(19, 0));
        Check.due("the last on the first of 20", 1, x.carried(0, 19));
        Check.due("the last on itself", 1, x.carried(19, 19));
        says(27, "Throws `IndexOutOfBoundsException` if there is no such step");
        Edge.refusesEach(Edge.INDEX, Edge::rich, (y, n) -> y.carried(n, 0), -1, 6, 20, Edge.LEAST,
                Edge.GREATEST);
        Edge.refusesEach(Edge.INDEX, Edge::rich, (y, n) -> y.carried(0, n), -1, 6, 20, Edge.LEAST,
                Edge.GREATEST);
        Edge.refusesEach(Edge.INDEX, Edge::full, (y, n) -> y.carried(n, n), -1, 20);
        Edge.refusesEach(Edge.INDEX, y -> { }, (y, n) -> y.carried(n, n), 0);
    }

    private static void heightAndEarliest() {
        says(28, "Returns the height of a step.");
        due(Check.with("a=b*c;d=a*a;e=d*d;f=1"), true, 9, 6, 3, 1);
        says(28, "`step`: its number");
        Edge.takesEach(Edge::rich, BuntingBundles::heightOf, 0, 5);
        says(28, "Returns the height.");
        BuntingBundles x = Check.with("a=b*c");
        x.setLatency(1, 6);
        Check.due("of a slower unit", 6, x.heightOf(0));
        x.undo();
        Check.due("behind undo", 3, x.heightOf(0));
        says(28, "Throws `IndexOutOfBoundsException` if there is no such step");
        Edge.refusesEach(Edge.INDEX, Edge::rich, BuntingBundles::heightOf, -1, 6, 20, Edge.LEAST,
                Edge.GREATEST);
        Edge.refusesEach(Edge.INDEX, Edge::full, BuntingBundles::heightOf, 20);
        Edge.refusesEach(Edge.INDEX, y -> { }, BuntingBundles::heightOf, 0);
        says(29, "Returns the earliest bundle of a step.");
        due(Check.with("a=b*c;d=a*a;e=d*d;f=1"), false, 0, 3, 6, 0);
        says(29, "`step`: its number");
        Edge.takesEach(Edge::rich, BuntingBundles::earliestOf, 0, 5);
        says(29, "Returns the bundle.");
        BuntingBundles z = Check.with("a=b*c;d=a+a");
        z.setLatency(1, 6);
        Check.due("behind a slower unit", 6, z.earliestOf(1));
        z.lay(0, 9);
        Check.due("bundles laid do not count", 6, z.earliestOf(1));
        says(29, "Throws `IndexOutOfBoundsException` if there is no such step");
        Edge.refusesEach(Edge.INDEX, Edge::rich, BuntingBundles::earliestOf, -1, 6, 20, Edge.LEAST,
                Edge.GREATEST);
        Edge.refusesEach(Edge.INDEX, Edge::full, BuntingBundles::earliestOf, 20);
        Edge.refusesEach(Edge.INDEX, y -> { }, BuntingBundles::earliestOf, 0);
    }

    private static BuntingBundles twenty(int latency) {
        BuntingBundles x = new BuntingBundles();
        x.setLatency(1, latency);
        for (int step = 0; step < 20; step++) {
            x.insert(step, BuntingBundles.TIMES, 0, 0, 0, 0);
        }
        return x;
    }

    private static void spans() {
        says(30, "Returns how many bundles go by at least until all results are there, if units had"
                + " slots enough, told by heights.");
        Check.due("wide", 3, Check.with("a=b*b;c=b*b;d=b*b;e=b*b;f=b*b").spanByHeights());
        Check.due("long", 7, Check.with("a=b*b;c=a*a;d=c+c").spanByHeights());
        says(30, "Returns the greatest height;");
        Check.due("the height of the first", 4, Check.with("a=1;b=a*a").spanByHeights());
        Check.due("the height of the last", 3, Check.with("a=1;b=c*c").spanByHeights());
        Check.due("the longest", 120, twenty(6).spanByHeights());
        says(30, "0 without steps.");
        Check.due("none", 0, new BuntingBundles().spanByHeights());
        BuntingBundles x = Check.with("a=1");
        x.remove(0);
        Check.due("none any more", 0, x.spanByHeights());
        says(31, "Returns the same, told by earliest bundles and latencies.");
        Check.due("wide", 3, Check.with("a=b*b;c=b*b;d=b*b;e=b*b;f=b*b").spanByEarliest());
        Check.due("long", 7, Check.with("a=b*b;c=a*a;d=c+c").spanByEarliest());
        Check.due("a latency that ends last", 4, Check.with("a=1;b=a*a;c=a+a").spanByEarliest());
        Check.due("none", 0, x.spanByEarliest());
        Check.due("none", 0, new BuntingBundles().spanByEarliest());
        says(31, "Returns the bundles, as many as by spanByHeights().");
        for (int latency = 1; latency <= 6; latency++) {
            Check.due("both spans", 20 * latency, twenty(latency).spanByEarliest());
            BuntingBundles y = with("a=b*c;d=a-f;[b+1]=d;e=[b+2];a=a-e;g=-9;b=g*a", latency,
                    7 - latency, latency);
            Check.due("both spans", y.spanByHeights(), y.spanByEarliest());
        }
    }

    private static void nothingIsChanged() {
        says(0, "nothing is changed.");
        Edge.changesNothing(Edge::rich, x -> {
            x.steps();
            for (int i = 0; i < 6; i++) {
                x.kindOf(i);
                x.readBy(i);
                x.writtenBy(i);
                x.latencyOf(i);
                x.separation(i, 5 - i);
                x.carried(i, 5 - i);
                x.heightOf(i);
                x.earliestOf(i);
            }
            x.spanByHeights();
            x.spanByEarliest();
        });
    }

    static void run() {
        several();
        writeThenRead();
        readThenWrite();
        bothWrite();
        bothMeet();
        apart();
        heights();
        carriedAtAll();
        carriedReading();
        carriedOthers();
        separation();
        carried();
        heightAndEarliest();
        spans();
        nothingIsChanged();
    }
}
