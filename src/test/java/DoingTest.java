/** Promises 39 to 44: what registers and cells have behind steps in order, and behind bundles. */
final class DoingTest {
    private static void inOrder() {
        BuntingBundles x = Check.with("a=b+c;d=b-c;e=b*c;f=b^c;g=c^b;h=-7;[h+11]=e;i=[h+11]");
        x.setRegister(1, Integer.MAX_VALUE);
        x.setRegister(2, 2);
        Check.due("ADD overflows", Integer.MIN_VALUE + 1, x.registerInOrder(0));
        Check.due("LESS", Integer.MAX_VALUE - 2, x.registerInOrder(3));
        Check.due("TIMES overflows", -2, x.registerInOrder(4));
        Check.due("GREATER", Integer.MAX_VALUE, x.registerInOrder(5));
        Check.due("GREATER, turned", Integer.MAX_VALUE, x.registerInOrder(6));
        Check.due("SET", -7, x.registerInOrder(7));
        Check.due("STORE", -2, x.cellInOrder(4));
        Check.due("LOAD", -2, x.registerInOrder(8));
        Check.due("a register that no step writes", 2, x.registerInOrder(2));
        Check.due("in order, not in bundles", 0, x.registerInBundles(0));
        Check.due("the value at first", 2, x.registerInBundles(2));
    }

    private static void cell(int register, int number, int want) {
        BuntingBundles x = new BuntingBundles();
        x.setRegister(3, register);
        x.setRegister(4, 8);
        x.insert(0, BuntingBundles.STORE, 0, 3, 4, number);
        x.insert(1, BuntingBundles.LOAD, 5, 3, 0, number);
        x.pack();
        for (int cell = 0; cell < 12; cell++) {
            Check.due("cell " + cell, cell == want ? 8 : 0, x.cellInOrder(cell));
            Check.due("cell " + cell, cell == want ? 8 : 0, x.cellInBundles(cell));
        }
        Check.due("LOAD of it", 8, x.registerInOrder(5));
        Check.due("LOAD of it", 8, x.registerInBundles(5));
    }

    private static void cells() {
        cell(0, 0, 0);
        cell(0, 11, 11);
        cell(5, 7, 0);
        cell(-1, 0, 11);
        cell(0, -1, 11);
        cell(-12, 0, 0);
        cell(1, -99, 10);
        cell(Integer.MAX_VALUE, 99, 10);
        cell(Integer.MIN_VALUE, -99, 1);
    }

    private static void beginnings() {
        BuntingBundles x = Check.with("a=1;b=a+a;c=a*d");
        x.setRegister(3, 5);
        x.lay(0, 0);
        x.lay(1, 0);
        x.lay(2, 1);
        Check.due("read at the beginning of the bundle", 0, x.registerInBundles(1));
        Check.due("in order", 2, x.registerInOrder(1));
        Check.yes("not alike", !x.doesAgree());
        Check.due("a at 0", 0, x.registerAt(0, 0));
        Check.due("a at 1", 1, x.registerAt(1, 0));
        Check.due("c at 3", 0, x.registerAt(3, 2));
        Check.due("c at 4", 5, x.registerAt(4, 2));
        Check.due("c at 205", 5, x.registerAt(205, 2));
        x.lay(1, 1);
        Check.yes("alike", x.doesAgree());
        x.takeOut(1);
        Check.due("laid in none is not done", 0, x.registerInBundles(1));
        x.lay(2, 199);
        x.setLatency(1, 6);
        Check.due("at 204", 0, x.registerAt(204, 2));
        Check.due("at 205", 5, x.registerAt(205, 2));
        Check.due("when all is there", 5, x.registerInBundles(2));
    }

    private static void atOneBeginning() {
        BuntingBundles x = Check.with("a=b*c;a=7");
        x.setRegister(1, 2);
        x.setRegister(2, 3);
        x.lay(0, 0);
        x.lay(1, 2);
        Check.due("ahead of both", 0, x.registerAt(2, 0));
        Check.due("the greatest number stays", 7, x.registerAt(3, 0));
        x.exchange(0, 1);
        Check.due("the greatest number stays", 6, x.registerAt(3, 0));
        x.lay(0, 1);
        Check.due("the first one there", 7, x.registerAt(2, 0));
        Check.due("the last one there", 6, x.registerInBundles(0));
        x.lay(0, 5);
        Check.due("the last one there", 7, x.registerInBundles(0));
        Check.yes("the register 0 alone is unlike", !x.doesAgree());
        BuntingBundles y = Check.with("l=7");
        Check.yes("the register 11 alone is unlike", !y.doesAgree());
        BuntingBundles z = Check.with("[a+0]=b");
        z.setRegister(1, 5);
        Check.yes("the cell 0 alone is unlike", !z.doesAgree());
        z.lay(0, 50);
        Check.yes("alike when it is done", z.doesAgree());
        BuntingBundles w = Check.with("[a+11]=b");
        w.setRegister(1, 5);
        Check.yes("the cell 11 alone is unlike", !w.doesAgree());
    }

    private static void cellsInBundles() {
        BuntingBundles x = Check.with("[a+3]=b;c=[a+3];[a+3]=d");
        x.setRegister(1, 4);
        x.setRegister(3, 9);
        x.setCell(3, 1);
        for (int step = 0; step < 3; step++) {
            x.lay(step, 0);
        }
        Check.due("LOAD reads the old value", 1, x.registerInBundles(2));
        Check.due("the greater STORE stays", 9, x.cellInBundles(3));
        x.lay(1, 1);
        Check.due("LOAD one behind", 9, x.registerInBundles(2));
        Check.due("LOAD is there two behind", 0, x.registerAt(2, 2));
        Check.due("LOAD is there two behind", 9, x.registerAt(3, 2));
        x.setLatency(2, 6);
        Check.due("STORE has the latency 1 always", 9, x.registerInBundles(2));
        Check.due("LOAD has not", 0, x.registerAt(6, 2));
        x.lay(0, 1);
        Check.due("the later STORE stays", 4, x.cellInBundles(3));
        Check.yes("cells count too", !x.doesAgree());
        x.takeOut(0);
        Check.due("cellInOrder", 9, x.cellInOrder(3));
        Check.due("cellInBundles", 9, x.cellInBundles(3));
    }

    private static void wrongPlaces() {
        BuntingBundles x = Check.with("a=1");
        for (int wrong : new int[] {-1, 12, Integer.MIN_VALUE, Integer.MAX_VALUE}) {
            for (Check.Call call : new Check.Call[] {() -> x.registerInOrder(wrong),
                () -> x.registerInBundles(wrong), () -> x.cellInOrder(wrong),
                () -> x.cellInBundles(wrong), () -> x.registerAt(0, wrong),
                () -> x.registerAt(206, wrong)}) {
                Check.throwing(x, "the place " + wrong, IndexOutOfBoundsException.class, call);
            }
        }
        for (int wrong : new int[] {-1, 206, Integer.MIN_VALUE, Integer.MAX_VALUE}) {
            Check.throwing(x, "the bundle " + wrong, IllegalArgumentException.class,
                    () -> x.registerAt(wrong, 0));
        }
    }

    public static void main(String[] args) {
        inOrder();
        cells();
        beginnings();
        atOneBeginning();
        cellsInBundles();
        wrongPlaces();
        Check.yes("nothing agrees with nothing", new BuntingBundles().doesAgree());
        Check.finish("DoingTest");
    }
}
