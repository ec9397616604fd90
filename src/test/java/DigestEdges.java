import java.util.ArrayList;
import java.util.Arrays;
import java.util.List;

/** Sentences of the promise 56: the hash of values that are written out here, one by one. */
final class DigestEdges {
    private static final long FREE = Edge.FREE;

    private DigestEdges() {
    }

    private static void says(String words) {
        Check.says(56, words);
    }

    /** The values of a state, part by part; at first those of a new object. */
    private static final class Values {
        long[] whole = {0, 0, 0, 0, 0, -1, 0, 1, 1, 1, 1, 2, 0, 0};
        long[] steps = {};
        long[] bundles = {};
        final long[][] registers = new long[12][4];
        final long[][] cells = new long[12][3];
        long loopBundles = 0;
        long savedStates = 0;
        double share = 0.0;
        long hasSnapshot = 0;
        String buffer = "";

        long hash() {
            List<Long> all = new ArrayList<>();
            add(all, whole);
            add(all, steps);
            add(all, bundles);
            for (long[] register : registers) {
                add(all, register);
            }
            for (long[] cell : cells) {
                add(all, cell);
            }
            add(all, loopBundles, savedStates, Double.doubleToLongBits(share), hasSnapshot,
                    buffer.length());
            for (char sign : buffer.toCharArray()) {
                add(all, sign);
            }
            long hash = 4643;
            for (long value : all) {
                hash = 31 * hash + value;
            }
            return hash;
        }

        private static void add(List<Long> all, long... values) {
            for (long value : values) {
                all.add(value);
            }
        }
    }

    private static void due(String what, Values want, BuntingBundles x) {
        Check.due(what, want.hash(), x.digest());
    }

    // ---- three states and what stands in them

    /** b is 3, c is 5, a=b*c is laid in the bundle 3. */
    private static void product(BuntingBundles x) {
        x.setRegister(1, 3);
        x.setRegister(2, 5);
        Check.type(x, "a=b*c");
        x.addAll();
        x.lay(0, 3);
    }

    private static Values ofProduct() {
        Values v = new Values();
        v.whole = new long[] {1, 3, 3, 4, 0, -1, 1, 1, 1, 1, 1, 2, 0, 1};
        v.steps = new long[] {3, 6, 0, 3, 3, 0, 3, 0, FREE, 1};
        v.bundles = new long[] {0, 0, 0, 1};
        Arrays.fill(v.registers[0], 15);
        Arrays.fill(v.registers[1], 3);
        Arrays.fill(v.registers[2], 5);
        v.loopBundles = 7;
        v.savedStates = 4;
        v.share = 1.0 / 16;
        return v;
    }

    /** b is 2, c is 4, the product is handed on to a sum, both are packed. */
    private static void handedOn(BuntingBundles x) {
        x.setRegister(1, 2);
        x.setRegister(2, 4);
        Check.type(x, "a=b*c;d=a+a");
        x.addAll();
        x.pack();
    }

    private static Values ofHandedOn() {
        Values v = new Values();
        v.whole = new long[] {2, 4, 4, 4, 0, -1, 4, 1, 1, 1, 1, 2, 0, 2};
        v.steps = new long[] {3, 6, 0, 3, 4, 0, 0, 0, FREE, 1, 3, FREE,
            1, 1, 3, 1, 1, 3, 3, 3, FREE, -2, FREE, 1};
        v.bundles = new long[] {1, 0, 0, 2};
        Arrays.fill(v.registers[0], 8);
        Arrays.fill(v.registers[1], 2);
        Arrays.fill(v.registers[2], 4);
        Arrays.fill(v.registers[3], 16);
        v.loopBundles = 10;
        v.savedStates = 4;
        v.share = 2.0 / 16;
        return v;
    }

    /** b is 1, a sum is counted up and stored, nothing is laid. */
    private static void stored(BuntingBundles x) {
        x.setRegister(1, 1);
        Check.type(x, "a=a+b;[c+5]=a");
        x.addAll();
    }

    private static Values ofStored() {
        Values v = new Values();
        v.whole = new long[] {2, 2, 2, 0, 1, 0, 2, 0, 1, 1, 1, 2, 0, 1};
        v.steps = new long[] {1, 3, 0, 1, 2, 0, -1, 0, FREE, 1, 1, FREE,
            6, 5, -1, 1, 1, 1, -1, 1, FREE, 0, FREE, 1};
        v.registers[0] = new long[] {1, 0, 3, 3};
        v.registers[1] = new long[] {1, 1, 1, 1};
        v.cells[5] = new long[] {1, 0, 2};
        v.loopBundles = 8;
        v.savedStates = 2;
        return v;
    }

    private static void none(BuntingBundles x) {
        for (int turn = 0; turn < 5; turn++) {
            x.setDelay(1);
        }
    }

    /** Steps that set registers to 0, side by side in the bundle 0, whatever the slots of the unit. */
    private static Values ofSets(int count, int slots) {
        Values v = new Values();
        int units = (count + slots) / slots;
        int beat = Math.max(2, units);
        int[] free = new int[beat];
        Arrays.fill(free, slots);
        free[beat - 2]--;
        long[] steps = new long[count * (8 + 2 * count)];
        Arrays.fill(steps, FREE);
        int last = 0;
        for (int i = 0; i < count; i++) {
            int start = 0;
            while (free[start] == 0) {
                start++;
            }
            free[start]--;
            last = Math.max(last, start);
            long[] one = {0, 0, i, 1, 1, 0, 0, start};
            System.arraycopy(one, 0, steps, i * (8 + 2 * count), 8);
            steps[i * (8 + 2 * count) + 8 + 2 * i + 1] = 1;
        }
        boolean isWrong = count > slots;
        v.whole = new long[] {count, 1, 1, 1, isWrong ? 2 : 0, isWrong ? 0 : -1,
            (count + slots - 1) / slots, 1, units, 1, 1, beat, beat - 2, 1};
        v.steps = steps;
        v.bundles = new long[] {(1 << count) - 1};
        v.loopBundles = last + 1 + 3 * beat;
        v.savedStates = 5;
        v.share = (double) count / (2 + slots);
        return v;
    }

    // ---- the sentences

    private static void hash() {
        says("Computes a hash of the whole state. The hash starts at 4643.");
        due("a new object", new Values(), new BuntingBundles());
        says("For each value v of the following list, in order, the hash becomes 31 * hash + v, in long"
                + " arithmetic with overflow.");
        due("a product", ofProduct(), Edge.made(DigestEdges::product));
        due("a product handed on", ofHandedOn(), Edge.made(DigestEdges::handedOn));
        due("a sum stored", ofStored(), Edge.made(DigestEdges::stored));
        Values great = new Values();
        Arrays.fill(great.registers[0], Edge.LEAST);
        Arrays.fill(great.registers[11], Edge.GREATEST);
        great.savedStates = 2;
        BuntingBundles x = new BuntingBundles();
        x.setRegister(0, Edge.LEAST);
        x.setRegister(11, Edge.GREATEST);
        due("values far from 0", great, x);
        says("(A boolean is 1 for true, 0 for false.) The values are:");
        Values taken = ofProduct();
        taken.whole = new long[] {1, 3, 3, 0, 1, 0, 1, 0, 1, 1, 1, 2, 0, 1};
        taken.steps[6] = -1;
        taken.bundles = new long[] {};
        taken.registers[0][1] = 0;
        taken.savedStates = 5;
        taken.share = 0.0;
        BuntingBundles y = Edge.made(DigestEdges::product);
        y.takeOut(0);
        due("a product taken out does not agree", taken, y);
    }

    private static void whole() {
        says("steps, spanByHeights, spanByEarliest, bundles, whyWrong, wrongAt, wouldPack, doesAgree,"
                + " beatByUnits, beatByCircles, beatByRounds, beat, jumpBundle, overlap;");
        BuntingBundles x = Edge.made(DigestEdges::handedOn);
        x.setDelay(3);
        Values late = ofHandedOn();
        late.whole = new long[] {2, 4, 4, 4, 0, -1, 4, 1, 1, 1, 1, 4, 0, 1};
        late.loopBundles = 16;
        late.savedStates = 5;
        due("a delay of 3", late, x);
        BuntingBundles y = Edge.made(DigestEdges::handedOn);
        y.setSlots(0, 1);
        Values narrow = ofHandedOn();
        narrow.whole[8] = 2;
        narrow.share = 2.0 / 12;
        narrow.savedStates = 5;
        due("one slot", narrow, y);
        BuntingBundles z = Edge.made(DigestEdges::handedOn);
        z.lay(1, 2);
        Values early = ofHandedOn();
        early.whole = new long[] {2, 4, 4, 3, 3, 1, 4, 0, 1, 1, 1, 2, 0, 2};
        early.steps[18] = 2;
        early.bundles = new long[] {1, 0, 2};
        early.registers[3][1] = 0;
        early.share = 2.0 / 12;
        early.savedStates = 5;
        due("laid too early", early, z);
    }

    private static void steps() {
        says("for each step kindOf, readBy, writtenBy, latencyOf, heightOf, earliestOf, bundleOf and"
                + " loopBundleOf, and for each step, itself, too, by rising numbers, separation and then"
                + " carried with which that step hangs on the first one;");
        BuntingBundles x = Edge.made(DigestEdges::handedOn);
        x.exchange(0, 1);
        Values turned = ofHandedOn();
        turned.whole = new long[] {2, 3, 3, 4, 3, 1, 1, 0, 1, 1, 1, 3, 1, 1};
        turned.steps = new long[] {1, 1, 3, 1, 1, 0, 3, 0, FREE, 1, -2, -2,
            3, 6, 0, 3, 3, 0, 0, 0, FREE, 3, FREE, 1};
        turned.bundles = new long[] {2, 0, 0, 1};
        turned.registers[3] = new long[] {0, 16, 16, 16};
        turned.loopBundles = 10;
        turned.savedStates = 5;
        due("exchanged", turned, x);
        says("for each bundle, if there are some, stepsIn;");
        for (int bundle = 0; bundle < 200; bundle += bundle < 3 ? 1 : 49) {
            BuntingBundles y = Edge.made(DigestEdges::product);
            y.lay(0, bundle);
            Values v = ofProduct();
            v.whole[3] = bundle + 1;
            v.steps[6] = bundle;
            v.bundles = new long[bundle + 1];
            v.bundles[bundle] = 1;
            v.share = 1.0 / (4 * (bundle + 1));
            v.savedStates = 5;
            due("laid in " + bundle, v, y);
        }
        due("no bundles", ofStored(), Edge.made(DigestEdges::stored));
        BuntingBundles slow = Edge.made(DigestEdges::product);
        slow.lay(0, 199);
        slow.setLatency(1, 6);
        Values v = ofProduct();
        v.whole = new long[] {1, 6, 6, 200, 0, -1, 1, 1, 1, 1, 1, 2, 0, 1};
        v.steps = new long[] {3, 6, 0, 6, 6, 0, 199, 0, FREE, 1};
        v.bundles = new long[200];
        v.bundles[199] = 1;
        v.share = 1.0 / 800;
        v.savedStates = 5;
        due("the last result of all", v, slow);
    }

    private static void values() {
        says("for each register registerInOrder, registerInBundles, registerInLoop and registerInRounds"
                + " of 3;");
        for (int register = 0; register < 12; register++) {
            BuntingBundles x = new BuntingBundles();
            x.setRegister(register, 100 + register);
            Values v = new Values();
            Arrays.fill(v.registers[register], 100 + register);
            v.savedStates = 1;
            due("the register " + register, v, x);
        }
        due("a sum of three rounds", ofStored(), Edge.made(DigestEdges::stored));
        says("for each cell cellInOrder, cellInBundles and cellInLoop of 2;");
        for (int cell = 0; cell < 12; cell++) {
            BuntingBundles x = new BuntingBundles();
            x.setCell(cell, 200 + cell);
            Values v = new Values();
            Arrays.fill(v.cells[cell], 200 + cell);
            v.savedStates = 1;
            due("the cell " + cell, v, x);
        }
        due("a sum of two rounds", ofStored(), Edge.made(DigestEdges::stored));
        says("loopBundles of 4;");
        due("of a new object", new Values(), new BuntingBundles());
        due("of two steps", ofHandedOn(), Edge.made(DigestEdges::handedOn));
        says("savedStates;");
        for (int saved = 0; saved <= 7; saved++) {
            BuntingBundles x = new BuntingBundles();
            for (int turn = 0; turn < saved; turn++) {
                x.setDelay(1);
            }
            Values v = new Values();
            v.savedStates = Math.min(5, saved);
            due(saved + " saved", v, x);
        }
    }

    private static void shareAndRest() {
        says("the bits of filledShare (as Double.doubleToLongBits);");
        for (int slots = 1; slots <= 4; slots++) {
            for (int bundle = 0; bundle < 200; bundle += bundle < 9 ? 1 : 38) {
                BuntingBundles x = Edge.made(DigestEdges::product);
                x.setSlots(2, slots);
                x.lay(0, bundle);
                Values v = ofProduct();
                v.whole[3] = bundle + 1;
                v.steps[6] = bundle;
                v.bundles = new long[bundle + 1];
                v.bundles[bundle] = 1;
                v.share = 1.0 / ((3 + slots) * (bundle + 1));
                v.savedStates = 5;
                due("one of " + (3 + slots) * (bundle + 1), v, x);
            }
        }
        for (int slots = 1; slots <= 4; slots++) {
            for (int count = 1; count <= 12; count++) {
                BuntingBundles x = Edge.made(DigestEdges::none);
                for (int i = 0; i < count; i++) {
                    x.insert(i, BuntingBundles.SET, i, 0, 0, 0);
                    x.lay(i, 0);
                }
                x.setSlots(0, slots);
                due(count + " of " + (2 + slots), ofSets(count, slots), x);
            }
        }
        says("1 if there is a snapshot, otherwise 0;");
        BuntingBundles x = new BuntingBundles();
        x.keep();
        Values kept = new Values();
        kept.hasSnapshot = 1;
        due("a snapshot", kept, x);
        x.goBack();
        kept.savedStates = 1;
        due("the snapshot stays", kept, x);
        says("the length of the buffer and each of its character codes.");
        BuntingBundles y = new BuntingBundles();
        Values typed = new Values();
        for (int code = 33; code <= 92; code++) {
            y.append(code + (code % 2) * 34);
            typed.buffer += (char) (code + (code % 2) * 34);
            due("a buffer of " + typed.buffer.length(), typed, y);
        }
        y.clearBuffer();
        due("a buffer that was cleared", new Values(), y);
        y.append('z');
        typed.buffer = "z";
        due("one character", typed, y);
        says("Returns the hash.");
        Check.due("twice the same", y.digest(), y.digest());
        Edge.changesNothing(Edge::rich, BuntingBundles::digest);
    }

    static void run() {
        hash();
        whole();
        steps();
        values();
        shareAndRest();
    }
}
