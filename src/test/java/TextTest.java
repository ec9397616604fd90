/** Promises 13 to 16: the buffer, its first error, and steps from texts. */
final class TextTest {
    private static void buffer() {
        BuntingBundles x = new BuntingBundles();
        Check.due("append 33", 1, x.append(33));
        Check.due("append 126", 2, x.append(126));
        for (int wrong : new int[] {32, 127, -1, 0, Integer.MAX_VALUE}) {
            Check.throwing(x, "append", IllegalArgumentException.class, () -> x.append(wrong));
        }
        for (int i = 2; i < 60; i++) {
            Check.due("append", i + 1, x.append('a'));
        }
        Check.throwing(x, "append of the sign 61", IllegalStateException.class,
                () -> x.append('a'));
        Check.throwing(x, "the code ahead of the length", IllegalArgumentException.class,
                () -> x.append(32));
        Check.due("nothing is saved", 0, x.savedStates());
        Check.due("clearBuffer", 60, x.clearBuffer());
        Check.due("clearBuffer again", 0, x.clearBuffer());
        Check.due("append again", 1, x.append('a'));
    }

    /** The place of the first error, and whether the text is complete. */
    private static void text(String text, int error, boolean isWhole) {
        BuntingBundles x = new BuntingBundles();
        Check.type(x, text);
        Check.due("firstError of " + text, error, x.firstError());
        if (isWhole) {
            Check.due("addAll of " + text, text.split(";").length, x.addAll());
            Check.due("the buffer behind " + text, 0, x.clearBuffer());
            Check.due("saved once by " + text, 1, x.savedStates());
        } else {
            Check.throwing(x, "addAll of " + text, IllegalArgumentException.class, x::addAll);
            Check.due("the buffer behind " + text, text.length(), x.clearBuffer());
            Check.due("nothing saved by " + text, 0, x.savedStates());
        }
    }

    private static void whole(String text) {
        text(text, text.length(), true);
    }

    private static void open(String text) {
        text(text, text.length(), false);
    }

    private static void bad(String text, int error) {
        text(text, error, false);
    }

    private static void texts() {
        for (String text : new String[] {"a=0", "l=9", "a=10", "a=99", "a=-0", "a=-99", "a=-5",
            "a=b+c", "a=b-c", "a=b*c", "a=b^c", "l=l+l", "a=[b+0]", "a=[b+9]", "a=[b+1]",
            "a=[b+10]", "a=[b+11]", "[a+0]=b", "[l+1]=l", "[a+10]=b", "[a+11]=b", "[a+9]=a",
            "a=0;b=1", "a=12;b=a+a;[a+1]=b;c=[a+2];d=-1"}) {
            whole(text);
        }
        for (String text : new String[] {"", "a", "a=", "a=-", "a=b", "a=b+", "a=[", "a=[b",
            "a=[b+", "a=[b+1", "a=[b+10", "[", "[a", "[a+", "[a+1", "[a+11", "[a+1]", "[a+1]=",
            "a=0;", "a=b+c;", "a=b+c;b"}) {
            open(text);
        }
    }

    private static void errors() {
        bad("m=1", 0);
        bad("=", 0);
        bad("A=1", 0);
        bad(";", 0);
        bad("1", 0);
        bad("a+b", 1);
        bad("a=+1", 2);
        bad("a=m", 2);
        bad("a=;", 2);
        bad("a=00", 3);
        bad("a=05", 3);
        bad("a=100", 4);
        bad("a=--1", 3);
        bad("a=-b", 3);
        bad("a=-00", 4);
        bad("a=-;", 3);
        bad("a=-100", 5);
        bad("a=1b", 3);
        bad("a=b=c", 3);
        bad("a=b/c", 3);
        bad("a=b+1", 4);
        bad("a=b+-", 4);
        bad("a=b+cd", 5);
        bad("a=b+c+d", 5);
        bad("a=b;", 3);
        bad("a=[1", 3);
        bad("a=[b-1]", 4);
        bad("a=[b]", 4);
        bad("a=[b+]", 5);
        bad("a=[b+-1]", 5);
        bad("a=[b+12]", 6);
        bad("a=[b+00]", 6);
        bad("a=[b+20]", 6);
        bad("a=[b+110]", 7);
        bad("a=[b+1]=c", 7);
        bad("a=[b+1]c", 7);
        bad("[b+12]=c", 4);
        bad("[b+00]=c", 4);
        bad("[b+100]=c", 5);
        bad("[b+1];", 5);
        bad("[b+1]=1", 6);
        bad("[b+1]=c+d", 7);
        bad("[b+1]=-", 6);
        bad("[m", 1);
        bad("[a=", 2);
        bad("a=0;;", 4);
        bad("a=0;b=1;5", 8);
        bad("a=1!", 3);
    }

    private static void kinds() {
        BuntingBundles x = new BuntingBundles();
        Check.type(x, "a=-12;b=c+d;e=f-g;h=i*j;k=l^a;b=[c+11];[d+3]=e");
        Check.due("addAll", 7, x.addAll());
        for (int kind = 0; kind < 7; kind++) {
            Check.due("kindOf " + kind, kind, x.kindOf(kind));
            Check.due("bundleOf " + kind, BuntingBundles.NONE, x.bundleOf(kind));
        }
        int[] written = {0, 1, 4, 7, 10, 1, -1};
        int[] read = {0, 1 << 2 | 1 << 3, 1 << 5 | 1 << 6, 1 << 8 | 1 << 9, 1 << 11 | 1, 1 << 2,
            1 << 3 | 1 << 4};
        for (int step = 0; step < 7; step++) {
            Check.due("writtenBy " + step, written[step], x.writtenBy(step));
            Check.due("readBy " + step, read[step], x.readBy(step));
        }
        Check.due("the number", -12, x.registerInOrder(0));
        x.setCell(11, 44);
        x.setRegister(5, 9);
        x.setRegister(6, 2);
        Check.due("LESS is one less two", 7, x.registerInOrder(4));
        Check.due("LOAD with its number", 44, x.registerInOrder(1));
        Check.due("STORE with its number", 7, x.cellInOrder(3));
    }

    private static void limits() {
        BuntingBundles x = Check.with("a=1;a=1;a=1;a=1;a=1;a=1;a=1;a=1;a=1;a=1;a=1;a=1;a=1;a=1");
        Check.type(x, "b=1;b=1;b=1;b=1;b=1;b=1;b=1");
        Check.throwing(x, "addAll of 21", IllegalStateException.class, x::addAll);
        Check.due("the buffer stays", 27, x.clearBuffer());
        Check.type(x, "b=1;b=1;b=1;b=1;b=1;b=1;");
        Check.throwing(x, "not complete comes first", IllegalArgumentException.class, x::addAll);
        x.clearBuffer();
        Check.type(x, "b=1;b=1;b=1;b=1;b=1;b=1");
        int saved = x.savedStates();
        Check.due("saved", 5, saved);
        Check.due("addAll up to 20", 20, x.addAll());
        Check.due("undo of all at once", 4, x.undo());
        Check.due("steps", 14, x.steps());
        Check.due("undo leaves the buffer", 0, x.clearBuffer());
        Check.type(x, "b=1;b=1;b=1;b=1;b=1;b=1;b=1;b=1;b=1;b=1;b=1;b=1;b=1;b=1;b=1");
        Check.due("more than 20 steps are no syntax error", 59, x.firstError());
        Check.throwing(x, "addAll of 29", IllegalStateException.class, x::addAll);
    }

    public static void main(String[] args) {
        buffer();
        texts();
        errors();
        kinds();
        limits();
        Check.finish("TextTest");
    }
}
