/** Promise 56: the digest, put together from the other answers as the document lists them. */
final class DigestTest {
    private static long hash;

    private static void mix(long value) {
        hash = 31 * hash + value;
    }

    private static long digest(BuntingBundles x, boolean hasSnapshot, String buffer) {
        hash = 4643;
        int[] whole = {x.steps(), x.spanByHeights(), x.spanByEarliest(), x.bundles(), x.whyWrong(),
            x.wrongAt(), x.wouldPack(), x.doesAgree() ? 1 : 0, x.beatByUnits(), x.beatByCircles(),
            x.beatByRounds(), x.beat(), x.jumpBundle(), x.overlap()};
        for (int value : whole) {
            mix(value);
        }
        for (int i = 0; i < x.steps(); i++) {
            int[] step = {x.kindOf(i), x.readBy(i), x.writtenBy(i), x.latencyOf(i), x.heightOf(i),
                x.earliestOf(i), x.bundleOf(i), x.loopBundleOf(i)};
            for (int value : step) {
                mix(value);
            }
            for (int j = 0; j < x.steps(); j++) {
                mix(x.separation(i, j));
                mix(x.carried(i, j));
            }
        }
        for (int bundle = 0; bundle < x.bundles(); bundle++) {
            mix(x.stepsIn(bundle));
        }
        for (int r = 0; r < 12; r++) {
            mix(x.registerInOrder(r));
            mix(x.registerInBundles(r));
            mix(x.registerInLoop(3, r));
            mix(x.registerInRounds(3, r));
        }
        for (int c = 0; c < 12; c++) {
            mix(x.cellInOrder(c));
            mix(x.cellInBundles(c));
            mix(x.cellInLoop(2, c));
        }
        mix(x.loopBundles(4));
        mix(x.savedStates());
        mix(Double.doubleToLongBits(x.filledShare()));
        mix(hasSnapshot ? 1 : 0);
        mix(buffer.length());
        for (char sign : buffer.toCharArray()) {
            mix(sign);
        }
        return hash;
    }

    /** Shares up to 20 thirds, the ones near 1 among them. */
    private static void manySteps() {
        for (int slots = 1; slots <= 4; slots++) {
            BuntingBundles x = new BuntingBundles();
            for (int unit = 0; unit < 3; unit++) {
                x.setSlots(unit, slots);
            }
            for (int step = 0; step < 20; step++) {
                x.insert(step, step % 7, step % 12, (step + 3) % 12, step % 5, step - 99);
                x.lay(step, 0);
                Check.due("share " + x.filledShare(), digest(x, false, ""), x.digest());
            }
        }
    }

    public static void main(String[] args) {
        BuntingBundles x = new BuntingBundles();
        Check.due("of a new object", digest(x, false, ""), x.digest());
        Check.type(x, "a=a+b;c=a*a;[c+1]=d;d=[a+7];b=b^c;a=5;");
        Check.due("with a buffer", digest(x, false, "a=a+b;c=a*a;[c+1]=d;d=[a+7];b=b^c;a=5;"),
                x.digest());
        x.append('b');
        x.append('=');
        x.append('7');
        x.addAll();
        for (int register = 0; register < 12; register++) {
            x.setRegister(register, register * register - 30);
            x.setCell(register, 100 - 7 * register);
        }
        Check.due("with steps", digest(x, false, ""), x.digest());
        x.keep();
        Check.due("with a snapshot", digest(x, true, ""), x.digest());
        x.pack();
        Check.due("packed", digest(x, true, ""), x.digest());
        int[] bundles = {0, 1, 2, 5, 15, 100, 199};
        for (int bundle : bundles) {
            x.lay(3, bundle);
            Check.due("laid in " + bundle, digest(x, true, ""), x.digest());
        }
        for (int step = 0; step < x.steps(); step++) {
            x.lay(step, 0);
            Check.due("more and more in 0", digest(x, true, ""), x.digest());
        }
        for (int slots = 1; slots <= 4; slots++) {
            x.setSlots(1, slots);
            Check.due("shares above 0", digest(x, true, ""), x.digest());
        }
        manySteps();
        x.undo();
        Check.due("behind undo", digest(x, true, ""), x.digest());
        Check.due("twice the same", x.digest(), x.digest());
        Check.finish("DigestTest");
    }
}
