/** Promises 10 to 12 and 32 to 38: bundles laid by hand, packed, and what is wrong with them. */
final class BundlesTest {
    private static final int NONE = BuntingBundles.NONE;

    private static void layAndTakeOut() {
        BuntingBundles x = Check.with("a=1;b=2");
        Check.due("bundles", 0, x.bundles());
        Check.due("lay", NONE, x.lay(1, 199));
        Check.due("bundles", 200, x.bundles());
        Check.due("lay again", 199, x.lay(1, 0));
        Check.due("bundleOf", 0, x.bundleOf(1));
        Check.due("bundleOf one laid in none", NONE, x.bundleOf(0));
        Check.due("stepsIn", 0b10, x.stepsIn(0));
        Check.due("lay beside", NONE, x.lay(0, 0));
        Check.due("stepsIn", 0b11, x.stepsIn(0));
        Check.due("stepsIn an empty one", 0, x.stepsIn(199));
        Check.due("bundles", 1, x.bundles());
        Check.due("takeOut", 0, x.takeOut(1));
        Check.throwing(x, "takeOut", IllegalStateException.class, () -> x.takeOut(1));
        Check.due("bundleOf", NONE, x.bundleOf(1));
        for (int wrong : new int[] {-1, 2, Integer.MAX_VALUE}) {
            Check.throwing(x, "lay", IndexOutOfBoundsException.class, () -> x.lay(wrong, 0));
            Check.throwing(x, "lay", IndexOutOfBoundsException.class, () -> x.lay(wrong, 200));
            Check.throwing(x, "takeOut", IndexOutOfBoundsException.class, () -> x.takeOut(wrong));
            Check.throwing(x, "bundleOf", IndexOutOfBoundsException.class,
                    () -> x.bundleOf(wrong));
        }
        for (int wrong : new int[] {-1, 200, Integer.MIN_VALUE, Integer.MAX_VALUE}) {
            Check.throwing(x, "lay", IllegalArgumentException.class, () -> x.lay(0, wrong));
            Check.throwing(x, "stepsIn", IllegalArgumentException.class, () -> x.stepsIn(wrong));
        }
    }

    private static void packed(String text, int[] wide, int... want) {
        BuntingBundles x = Check.with(text);
        for (int unit = 0; unit < 3; unit++) {
            x.setSlots(unit, wide[unit]);
        }
        if (want.length > 0) {
            x.lay(0, 77);
        }
        int span = 0;
        for (int bundle : want) {
            span = Math.max(span, bundle + 1);
        }
        Check.due("wouldPack " + text, span, x.wouldPack());
        Check.due("wouldPack changes nothing", want.length > 0 ? 78 : 0, x.bundles());
        Check.due("pack " + text, span, x.pack());
        for (int step = 0; step < want.length; step++) {
            Check.due("bundle of " + step + " in " + text, want[step], x.bundleOf(step));
        }
        Check.due("bundles", span, x.bundles());
        Check.due("packed is right", 0, x.whyWrong());
        Check.due("packed is right", NONE, x.wrongAt());
        Check.yes("packed agrees", x.doesAgree());
    }

    private static void packing() {
        int[] asFirst = {2, 1, 1};
        packed("", asFirst);
        packed("a=1", asFirst, 0);
        packed("a=1;b=2;c=3", asFirst, 0, 0, 1);
        packed("a=1;b=2;c=3;d=c*c", asFirst, 0, 1, 0, 1);
        packed("a=b*c;d=a+a", asFirst, 0, 3);
        packed("d=a+b;a=b*c", asFirst, 0, 0);
        packed("a=[b+0];[b+0]=c", asFirst, 0, 1);
        packed("a=[b+0];[b+0]=c", new int[] {2, 1, 2}, 0, 0);
        packed("[b+0]=c;a=[b+0]", new int[] {2, 1, 2}, 0, 1);
        packed("a=b*b;c=b*b;d=b*b", asFirst, 0, 1, 2);
        packed("a=b*b;c=b*b;d=b*b", new int[] {1, 4, 1}, 0, 0, 0);
        packed("a=1;b=2;c=3;d=4", new int[] {1, 1, 1}, 0, 1, 2, 3);
        packed("a=5;b=a*a;c=a+b;a=c-b", asFirst, 0, 1, 4, 5);
    }

    private static void wrong(BuntingBundles x, int why, int at) {
        Check.due("whyWrong", why, x.whyWrong());
        Check.due("wrongAt", at, x.wrongAt());
    }

    private static void reasons() {
        wrong(new BuntingBundles(), 0, NONE);
        BuntingBundles x = Check.with("a=1;b=2;c=3;d=e*f;g=e*f");
        wrong(x, 1, 0);
        x.lay(0, 9);
        x.lay(2, 9);
        wrong(x, 1, 1);
        x.lay(1, 9);
        x.lay(3, 2);
        x.lay(4, 2);
        wrong(x, 2, 2);
        x.lay(4, 3);
        wrong(x, 2, 9);
        x.setSlots(0, 3);
        wrong(x, 0, NONE);
        x.takeOut(4);
        wrong(x, 1, 4);
        BuntingBundles y = Check.with("a=1;b=a+a;c=a*b;d=7;d=d+c");
        int[] bundles = {3, 3, 3, 0, 9};
        for (int step = 0; step < 5; step++) {
            y.lay(step, bundles[step]);
        }
        y.setSlots(0, 4);
        wrong(y, 3, 1);
        y.lay(1, 4);
        wrong(y, 3, 2);
        y.lay(2, 5);
        wrong(y, 0, NONE);
        y.lay(2, 7);
        wrong(y, 3, 4);
        y.setSlots(0, 1);
        y.lay(3, 9);
        wrong(y, 2, 9);
        BuntingBundles z = Check.with("d=a+b;a=b*c");
        z.lay(0, 2);
        z.lay(1, 0);
        wrong(z, 0, NONE);
        Check.yes("a product may begin ahead of what reads its register", z.doesAgree());
        z.lay(0, 3);
        wrong(z, 3, 1);
    }

    private static void share(double want, BuntingBundles x) {
        Check.due("filledShare " + want + " and " + x.filledShare(),
                Double.doubleToLongBits(want), Double.doubleToLongBits(x.filledShare()));
    }

    private static void shares() {
        BuntingBundles x = new BuntingBundles();
        share(0.0, x);
        for (int step = 0; step < 20; step++) {
            x.insert(step, BuntingBundles.SET, 0, 0, 0, 0);
        }
        share(0.0, x);
        x.lay(3, 199);
        share(1.0 / 800, x);
        x.setSlots(1, 4);
        share(1.0 / 1400, x);
        x.setSlots(1, 1);
        x.takeOut(3);
        for (int step = 0; step < 20; step++) {
            x.lay(step, 0);
        }
        share(5.0, x);
        x.setSlots(0, 1);
        share(20.0 / 3, x);
        x.lay(0, 2);
        share(20.0 / 9, x);
    }

    public static void main(String[] args) {
        layAndTakeOut();
        packing();
        reasons();
        shares();
        Check.finish("BundlesTest");
    }
}
