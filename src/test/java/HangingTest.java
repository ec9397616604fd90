/** Promises 26 to 31: what hangs on what, in one round and from round to round, heights. */
final class HangingTest {
    private static final int FREE = BuntingBundles.FREE;

    private static void near(String text, int i, int j, int want) {
        Check.due("separation " + i + ", " + j + " in " + text, want,
                Check.with(text).separation(i, j));
    }

    private static void over(String text, int i, int j, int want) {
        Check.due("carried " + i + ", " + j + " in " + text, want, Check.with(text).carried(i, j));
    }

    private static void registers() {
        near("a=b*c;d=a+a", 0, 1, 3);
        near("a=b*c;d=a+a", 1, 0, FREE);
        near("a=a*a;d=a+a", 0, 0, FREE);
        near("a=b*c;d=e+a", 0, 1, 3);
        near("a=b*c;d=e+f", 0, 1, FREE);
        near("a=b*c;a=7;d=a+a", 0, 2, FREE);
        near("a=b*c;a=7;d=a+a", 0, 1, 3);
        near("a=b*c;a=7;d=a+a", 1, 2, 1);
        near("a=b*c;d=a+a;e=a+a", 0, 2, 3);
        near("d=a+b;a=b*c", 0, 1, -2);
        near("d=a+b;a=7", 0, 1, 0);
        near("d=a+b;a=3;a=b*c", 0, 2, -2);
        near("a=b*c;a=d*e", 0, 1, 1);
        near("a=1;a=b*c", 0, 1, -1);
        near("a=b*c;a=1", 0, 1, 3);
        near("a=a*b;a=a*c", 0, 1, 3);
        near("a=b+c;b=a*a", 0, 1, 1);
        near("[a+1]=b;b=c*d", 0, 1, -2);
        near("[a+1]=b;a=c*d", 0, 1, -2);
        near("a=[b+1];c=a+a", 0, 1, 2);
        near("a=1;b=2", 0, 1, FREE);
        BuntingBundles x = Check.with("a=b*c;d=a+a;a=e*f");
        x.setLatency(0, 6);
        x.setLatency(1, 2);
        Check.due("slow sums, quick product", 2, x.separation(0, 1));
        Check.due("the other way", -1, x.separation(1, 2));
        x.setLatency(1, 6);
        Check.due("the least separation", -5, x.separation(1, 2));
    }

    private static void cells() {
        near("a=[b+1];[b+1]=c", 0, 1, 0);
        near("a=[b+1];[b+2]=c", 0, 1, FREE);
        near("a=[b+1];[c+2]=d", 0, 1, 0);
        near("[b+1]=c;a=[b+1]", 0, 1, 1);
        near("[b+1]=c;a=[b+2]", 0, 1, FREE);
        near("[b+1]=c;[b+1]=d", 0, 1, 1);
        near("[b+1]=c;[b+0]=d", 0, 1, FREE);
        near("[b+1]=c;[d+0]=d", 0, 1, 1);
        near("a=[b+1];c=[b+1]", 0, 1, FREE);
        near("a=[b+1];b=3;[b+2]=c", 0, 2, 0);
        near("b=[b+1];b=5;[b+2]=c", 0, 2, 0);
        near("b=[b+1];[b+2]=c", 0, 1, 2);
        near("[b+1]=c;b=[b+2]", 0, 1, -1);
        near("[b+1]=c;d=5;a=[b+2]", 0, 2, FREE);
        BuntingBundles x = new BuntingBundles();
        x.insert(0, BuntingBundles.STORE, 1, 1, 2, 3);
        x.insert(1, BuntingBundles.LOAD, 0, 1, 0, -9);
        x.insert(2, BuntingBundles.LOAD, 0, 1, 0, 15);
        x.insert(3, BuntingBundles.LOAD, 0, 1, 0, -8);
        x.insert(4, BuntingBundles.LOAD, 0, 1, 0, 99);
        Check.due("-9 leaves 3", 1, x.separation(0, 1));
        Check.due("15 leaves 3", 1, x.separation(0, 2));
        Check.due("-8 leaves 4", FREE, x.separation(0, 3));
        Check.due("99 leaves 3", 1, x.separation(0, 4));
        Check.due("the target of STORE is not written", FREE, Check.with("[b+1]=c;d=a+a")
                .separation(0, 1));
    }

    private static void fromRoundToRound() {
        over("a=b*c;d=a+a", 0, 1, FREE);
        over("a=b*c;d=a+a", 1, 0, -2);
        over("a=b*c;d=a+a", 0, 0, 1);
        over("a=b*c;d=a+a", 1, 1, 1);
        over("d=a+a;a=b*c", 1, 0, 3);
        over("d=a+a;a=b*c", 0, 1, -2);
        over("d=a+a;a=b*c;a=5", 1, 0, FREE);
        over("d=a+a;a=b*c;a=5", 2, 0, 1);
        over("d=a+a;a=b*c;a=5", 2, 1, -1);
        over("d=a+a;a=b*c;a=5", 1, 2, 3);
        over("a=5;d=a+a;a=b*c", 2, 1, FREE);
        over("a=5;d=a+a;a=b*c", 2, 0, 3);
        over("a=a+b", 0, 0, 1);
        over("a=a*b", 0, 0, 3);
        over("a=b*b", 0, 0, 1);
        over("[b+1]=c;d=[b+2]", 0, 1, 1);
        over("[b+1]=c;d=[b+2]", 1, 0, 0);
        over("[b+1]=c;d=[b+2]", 0, 0, 1);
        over("[b+1]=c;d=[b+2]", 1, 1, 1);
        over("a=[b+1];c=[b+1]", 0, 1, FREE);
        over("a=[b+1];c=[b+1]", 1, 0, FREE);
        over("[b+1]=c;a=7", 0, 1, FREE);
        over("b=[b+1];[c+1]=b", 0, 1, 0);
    }

    private static void heights() {
        BuntingBundles x = Check.with("a=5;b=a*a;c=a+b;a=c-b");
        int[] heights = {6, 5, 2, 1};
        int[] earliest = {0, 1, 4, 5};
        for (int step = 0; step < 4; step++) {
            Check.due("heightOf " + step, heights[step], x.heightOf(step));
            Check.due("earliestOf " + step, earliest[step], x.earliestOf(step));
        }
        Check.due("spanByHeights", 6, x.spanByHeights());
        Check.due("spanByEarliest", 6, x.spanByEarliest());
        BuntingBundles y = Check.with("d=a+b;a=b*c");
        Check.due("height with a separation below 0", 1, y.heightOf(0));
        Check.due("height of the product", 3, y.heightOf(1));
        Check.due("earliest is not below 0", 0, y.earliestOf(1));
        Check.due("spanByHeights", 3, y.spanByHeights());
        Check.due("spanByEarliest", 3, y.spanByEarliest());
        y.setLatency(1, 6);
        Check.due("told anew", 6, y.spanByEarliest());
        Check.due("told anew", 6, y.spanByHeights());
        Check.due("no steps", 0, new BuntingBundles().spanByHeights());
        Check.due("no steps", 0, new BuntingBundles().spanByEarliest());
    }

    private static void wrongSteps() {
        BuntingBundles x = Check.with("a=1;b=2");
        for (int wrong : new int[] {-1, 2, 20, Integer.MIN_VALUE, Integer.MAX_VALUE}) {
            for (Check.Call call : new Check.Call[] {() -> x.separation(wrong, 0),
                () -> x.separation(0, wrong), () -> x.carried(wrong, 1),
                () -> x.carried(1, wrong), () -> x.heightOf(wrong), () -> x.earliestOf(wrong)}) {
                Check.throwing(x, "a step " + wrong, IndexOutOfBoundsException.class, call);
            }
        }
    }

    public static void main(String[] args) {
        registers();
        cells();
        fromRoundToRound();
        heights();
        wrongSteps();
        Check.finish("HangingTest");
    }
}
