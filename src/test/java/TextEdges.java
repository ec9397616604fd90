/** Sentences of the document about texts, and of the promises 13 to 16. */
final class TextEdges {
    private TextEdges() {
    }

    private static void says(int promise, String words) {
        Check.says(promise, words);
    }

    private static BuntingBundles typed(String text) {
        BuntingBundles x = new BuntingBundles();
        Check.type(x, text);
        return x;
    }

    /** Complete steps as a text. */
    private static void whole(String text, int steps) {
        BuntingBundles x = typed(text);
        Check.due("firstError of " + text, text.length(), x.firstError());
        Check.due("addAll of " + text, steps, x.addAll());
        Check.due("steps of " + text, steps, x.steps());
        Check.due("the buffer behind " + text, 0, x.clearBuffer());
    }

    /** Ahead of it all is well, but it is not complete. */
    private static void open(String text) {
        Check.due("firstError of " + text, text.length(), typed(text).firstError());
        Edge.refuses(Edge.ARGUMENT, x -> Check.type(x, text), BuntingBundles::addAll);
    }

    /** A syntax error at a place, whatever stands behind it. */
    private static void bad(String text, int place) {
        Check.due("firstError of " + text, place, typed(text).firstError());
        Check.due("firstError up to there", place, typed(text.substring(0, place)).firstError());
        Check.due("firstError with it", place, typed(text.substring(0, place + 1)).firstError());
        Edge.refuses(Edge.ARGUMENT, x -> Check.type(x, text), BuntingBundles::addAll);
    }

    /** Of all characters just these may follow on a text. */
    private static void follow(String text, String signs) {
        for (int code = 33; code <= 126; code++) {
            BuntingBundles x = typed(text);
            x.append(code);
            Check.due((char) code + " behind " + text,
                    text.length() + (signs.indexOf(code) >= 0 ? 1 : 0), x.firstError());
        }
    }

    private static final String LETTERS = "abcdefghijkl";
    private static final String DIGITS = "0123456789";

    // ---- the terms

    private static void many() {
        says(0, "Steps as a text are one or more steps with \";\" between them;");
        open("");
        whole("a=1", 1);
        whole("a=1;b=2", 2);
        whole("a=1;b=2;c=3;d=4;e=5;f=6;g=7;h=8;i=9;j=0;k=1;l=2;a=3;b=4;c=5", 15);
        open("a=1;");
        open("a=1;b=2;");
        bad(";a=1", 0);
        bad("a=1;;b=2", 4);
        bad("a=1,b=2", 3);
        bad("a=1b=2", 3);
        bad("a=b+cb=2", 5);
        follow("a=1;", LETTERS + "[");
        follow("a=b+c", ";");
        follow("a=0", ";");
        follow("a=10", ";");
        follow("a=[b+1]", ";");
        follow("[b+1]=c", ";");
        says(0, "registers are letters, \"a\" to \"l\":");
        follow("", LETTERS + "[");
        follow("a=b+", LETTERS);
        follow("a=[", LETTERS);
        follow("[", LETTERS);
        follow("[a+1]=", LETTERS);
        for (int i = 0; i < 12; i++) {
            char letter = LETTERS.charAt(i);
            BuntingBundles x = typed(letter + "=a+" + letter + ";[" + letter + "+0]=a;a=[" + letter
                    + "+0]");
            x.addAll();
            Check.due("writes " + letter, i, x.writtenBy(0));
            Check.due("reads " + letter, 1 | 1 << i, x.readBy(0));
            Check.due("stores by " + letter, 1 | 1 << i, x.readBy(1));
            Check.due("loads by " + letter, 1 << i, x.readBy(2));
        }
        bad("m=1", 0);
        bad("A=1", 0);
        bad("a=m+a", 2);
        bad("a=a+m", 4);
        bad("a=[m+1]", 3);
        bad("[m+1]=a", 1);
        bad("[a+1]=m", 6);
        bad("[a+1]=L", 6);
    }

    private static void set(String number, int want) {
        BuntingBundles x = typed("c=" + number);
        Check.due("addAll of " + number, 1, x.addAll());
        Check.due("kind", BuntingBundles.SET, x.kindOf(0));
        Check.due("target", 2, x.writtenBy(0));
        Check.due("the number " + number, want, x.registerInOrder(2));
    }

    private static void numbers() {
        says(0, "a register and \"=\", and behind it a number, 0 to 99 without leading zeros, perhaps"
                + " with \"-\" ahead of it (SET);");
        for (int number = 0; number <= 99; number++) {
            set(Integer.toString(number), number);
            set("-" + number, -number);
        }
        follow("a", "=");
        follow("a=", LETTERS + DIGITS + "-[");
        follow("a=-", DIGITS);
        follow("a=9", DIGITS + ";");
        follow("a=1", DIGITS + ";");
        follow("a=0", ";");
        follow("a=-0", ";");
        follow("a=-9", DIGITS + ";");
        follow("a=99", ";");
        follow("a=-99", ";");
        open("a");
        open("a=");
        open("a=-");
        bad("a=00", 3);
        bad("a=01", 3);
        bad("a=-00", 4);
        bad("a=-07", 4);
        bad("a=100", 4);
        bad("a=-100", 5);
        bad("a=--1", 3);
        bad("a=+1", 2);
        bad("a==1", 2);
        bad("aa=1", 1);
    }

    private static void betweens() {
        says(0, "two registers with \"+\", \"-\", \"*\" or \"^\" between them (ADD, LESS, TIMES or"
                + " GREATER);");
        int[] values = {12, 6, 27, 9};
        for (int way = 0; way < 4; way++) {
            BuntingBundles x = typed("c=d" + "+-*^".charAt(way) + "e");
            x.setRegister(3, 9);
            x.setRegister(4, 3);
            Check.due("addAll", 1, x.addAll());
            Check.due("kind", way + 1, x.kindOf(0));
            Check.due("target", 2, x.writtenBy(0));
            Check.due("reads", 3 << 3, x.readBy(0));
            Check.due("value", values[way], x.registerInOrder(2));
        }
        follow("a=b", "+-*^");
        follow("a=b-", LETTERS);
        follow("a=b*", LETTERS);
        follow("a=b^", LETTERS);
        open("a=b");
        open("a=b^");
        bad("a=b;", 3);
        bad("a=b/c", 3);
        bad("a=b+1", 4);
        bad("a=b+-c", 4);
        bad("a=1+b", 3);
        bad("a=b+c+d", 5);
        bad("a=b+[c+1]", 4);
    }

    private static void loads() {
        says(0, "or \"[\", a register, \"+\", a number, 0 to 11 without leading zeros, and \"]\""
                + " (LOAD);");
        for (int number = 0; number <= 11; number++) {
            BuntingBundles x = typed("c=[d+" + number + "]");
            for (int cell = 0; cell < 12; cell++) {
                x.setCell(cell, 50 + cell);
            }
            Check.due("addAll", 1, x.addAll());
            Check.due("kind", BuntingBundles.LOAD, x.kindOf(0));
            Check.due("target", 2, x.writtenBy(0));
            Check.due("reads", 1 << 3, x.readBy(0));
            Check.due("the cell " + number, 50 + number, x.registerInOrder(2));
        }
        follow("a=[b", "+");
        follow("a=[b+", DIGITS);
        follow("a=[b+0", "]");
        follow("a=[b+1", "01]");
        follow("a=[b+2", "]");
        follow("a=[b+9", "]");
        follow("a=[b+10", "]");
        follow("a=[b+11", "]");
        open("a=[");
        open("a=[b");
        open("a=[b+");
        open("a=[b+1");
        open("a=[b+11");
        bad("a=[b+12]", 6);
        bad("a=[b+19]", 6);
        bad("a=[b+20]", 6);
        bad("a=[b+00]", 6);
        bad("a=[b+01]", 6);
        bad("a=[b+110]", 7);
        bad("a=[b+-1]", 5);
        bad("a=[b-1]", 4);
        bad("a=[b+c]", 5);
        bad("a=[b]", 4);
        bad("a=[1+b]", 3);
        bad("a=-[b+1]", 3);
    }

    private static void stores() {
        says(0, "or \"[\", a register, \"+\", a number, 0 to 11 without leading zeros, \"]\", \"=\" and"
                + " a register (STORE).");
        for (int number = 0; number <= 11; number++) {
            BuntingBundles x = typed("[d+" + number + "]=e");
            x.setRegister(4, 77);
            Check.due("addAll", 1, x.addAll());
            Check.due("kind", BuntingBundles.STORE, x.kindOf(0));
            Check.due("target", -1, x.writtenBy(0));
            Check.due("reads", 3 << 3, x.readBy(0));
            for (int cell = 0; cell < 12; cell++) {
                Check.due("the cell " + cell, cell == number ? 77 : 0, x.cellInOrder(cell));
            }
        }
        follow("[b", "+");
        follow("[b+", DIGITS);
        follow("[b+0", "]");
        follow("[b+1", "01]");
        follow("[b+2", "]");
        follow("[b+9", "]");
        follow("[b+10", "]");
        follow("[b+11", "]");
        follow("[b+1]", "=");
        follow("[b+1]=", LETTERS);
        open("[");
        open("[b+");
        open("[b+11");
        open("[b+1]");
        open("[b+1]=");
        bad("[b+12]=c", 4);
        bad("[b+00]=c", 4);
        bad("[b+100]=c", 5);
        bad("[b+1]=5", 6);
        bad("[b+1]=-5", 6);
        bad("[b+1]=[c+1]", 6);
        bad("[b+1]=c+d", 7);
        bad("[b+1];a=1", 5);
        bad("[b+1]==c", 6);
        bad("a[b+1]", 1);
    }

    private static void leftToRight() {
        says(0, "The buffer is read from left to right; a character is a syntax error if no steps as a"
                + " text, of any length, begin with the characters before it and this character.");
        bad("a=m;b=n", 2);
        bad("a=1;b=n;m", 6);
        bad("!!!", 0);
        bad("a=1;b=2]", 7);
        Check.due("more steps than there may be", 59,
                typed("b=1;b=1;b=1;b=1;b=1;b=1;b=1;b=1;b=1;b=1;b=1;b=1;b=1;b=1;b=1").firstError());
        BuntingBundles x = Edge.made(Edge::full);
        Check.type(x, "a=1");
        Check.due("more steps than there may be", 3, x.firstError());
        String open = "a=1;b=1;b=1;b=1;b=1;b=1;b=1;b=1;b=1;b=1;b=1;b=1;b=1;b=1;[b+1";
        open(open);
        open(open.substring(0, 56) + "l=b*");
        bad(open.substring(0, 59) + "]", 59);
    }

    // ---- the promises

    private static void append() {
        says(0, "The buffer has at most 60 characters.");
        BuntingBundles x = new BuntingBundles();
        for (int length = 1; length <= 60; length++) {
            Check.due("the length", length, x.append(33 + length));
        }
        Edge.refuses(Edge.STATE, TextEdges::sixty, y -> y.append('a'));
        says(13, "Appends a character to the buffer.");
        BuntingBundles z = typed("a=5");
        z.append('7');
        z.addAll();
        Check.due("at its end", 57, z.registerInOrder(0));
        Check.due("not undoable", 1, z.savedStates());
        says(13, "`code`: the character code, 33 to 126");
        Edge.takesEach(Edge::rich, BuntingBundles::append, 33, 34, 125, 126);
        Edge.takesEach(y -> { }, BuntingBundles::append, 33, 126);
        says(13, "Returns the new length of the buffer.");
        Check.due("the first", 1, new BuntingBundles().append('x'));
        Check.due("behind another one", 5, Edge.made(Edge::rich).append('x'));
        BuntingBundles w = typed("abc");
        w.clearBuffer();
        Check.due("the first again", 1, w.append('x'));
        says(13, "Throws `IllegalArgumentException` if code is not 33 to 126");
        Edge.refusesEach(Edge.ARGUMENT, Edge::rich, BuntingBundles::append, 32, 127, -1, 0, 160, 255,
                33 + 256, Edge.LEAST, Edge.GREATEST);
        says(13, "Throws `IllegalStateException` if the buffer has 60 characters");
        Edge.refusesEach(Edge.STATE, TextEdges::sixty, BuntingBundles::append, 33, 126);
        BuntingBundles v = Edge.made(TextEdges::sixty);
        v.clearBuffer();
        Check.due("behind clearing", 1, v.append(33));
    }

    private static void sixty(BuntingBundles x) {
        Edge.rich(x);
        while (x.append('b') < 60) {
            continue;
        }
    }

    private static void clear() {
        says(14, "Clears the buffer.");
        BuntingBundles x = typed("m");
        x.clearBuffer();
        Check.due("no error any more", 0, x.firstError());
        Edge.same("nothing else is changed", Edge::rich, y -> {
            Edge.rich(y);
            y.clearBuffer();
            Check.type(y, "c=7;");
        });
        says(14, "Returns the length that it had.");
        Check.due("empty", 0, new BuntingBundles().clearBuffer());
        Check.due("one", 1, typed("!").clearBuffer());
        BuntingBundles y = Edge.made(TextEdges::sixty);
        Check.due("full", 60, y.clearBuffer());
        Check.due("cleared", 0, y.clearBuffer());
    }

    private static void firstError() {
        says(15, "Finds the first syntax error of the buffer.");
        Check.due("of three", 2, typed("a=?;b=?;?").firstError());
        Edge.changesNothing(Edge::rich, BuntingBundles::firstError);
        Edge.changesNothing(TextEdges::sixty, BuntingBundles::firstError);
        says(15, "Returns the index of the first character that is a syntax error;");
        Check.due("the first", 0, typed("z").firstError());
        Check.due("the last of 60", 59,
                typed("a=1;b=1;b=1;b=1;b=1;b=1;b=1;b=1;b=1;b=1;b=1;b=1;b=1;b=1;b=1!").firstError());
        says(15, "the length of the buffer if there is none.");
        Check.due("empty", 0, new BuntingBundles().firstError());
        Check.due("open", 2, typed("a=").firstError());
        Check.due("whole", 3, typed("a=1").firstError());
        Check.due("full", 60,
                typed("a=1;b=1;b=1;b=1;b=1;b=1;b=1;b=1;b=1;b=1;b=1;b=1;b=1;b=1;b=1;").firstError());
    }

    private static void addAll() {
        says(16, "Adds the steps of the buffer behind all others, all or none, and clears the buffer.");
        BuntingBundles x = Edge.made(Edge::rich);
        Check.type(x, "l=9");
        Check.due("two behind six", 8, x.addAll());
        Check.due("the sixth stays", 6, x.writtenBy(5));
        Check.due("the seventh", 2, x.writtenBy(6));
        Check.due("the eighth", 11, x.writtenBy(7));
        Check.due("laid in none", -1, x.bundleOf(6));
        Check.due("laid in none", -1, x.bundleOf(7));
        Check.due("the buffer", 0, x.clearBuffer());
        Edge.refuses(Edge.STATE, TextEdges::tooMany, BuntingBundles::addAll);
        says(16, "What their kinds do not use is 0.");
        Edge.same("as inserted with 0", y -> {
            Check.type(y, "a=5;b=c+d;e=[f+2];[g+3]=h");
            y.addAll();
            saveFive(y);
        }, y -> {
            y.insert(0, BuntingBundles.SET, 0, 0, 0, 5);
            y.insert(1, BuntingBundles.ADD, 1, 2, 3, 0);
            y.insert(2, BuntingBundles.LOAD, 4, 5, 0, 2);
            y.insert(3, BuntingBundles.STORE, 0, 6, 7, 3);
            saveFive(y);
        });
        says(16, "Undoable, as one call.");
        Edge.undoable(TextEdges::richAndEmpty, w -> {
            Check.type(w, "c=7;d=8;e=9");
            w.addAll();
        });
        says(16, "Returns how many steps there are then.");
        Check.due("one", 1, typed("a=1").addAll());
        Check.due("fifteen", 15,
                typed("a=1;b=1;b=1;b=1;b=1;b=1;b=1;b=1;b=1;b=1;b=1;b=1;b=1;b=1;b=1").addAll());
        BuntingBundles f = Edge.made(Edge::full);
        f.remove(0);
        Check.type(f, "a=1");
        Check.due("the most", 20, f.addAll());
    }

    private static void saveFive(BuntingBundles x) {
        for (int turn = 0; turn < 5; turn++) {
            x.setDelay(1);
        }
    }

    private static void richAndEmpty(BuntingBundles x) {
        Edge.rich(x);
        x.clearBuffer();
    }

    /** Nineteen steps, and two in the buffer. */
    private static void tooMany(BuntingBundles x) {
        Edge.full(x);
        x.remove(7);
        Check.type(x, "a=1;b=2");
    }

    private static void addAllRefused() {
        says(16, "Throws `IllegalArgumentException` if the buffer is not complete steps as a text (the"
                + " buffer stays)");
        for (String text : new String[] {"", "a", "a=1;", "a=b", "m=1", "a=100", "a=1;b", "[a+1]",
            "a=1;b=2;?"}) {
            Edge.refuses(Edge.ARGUMENT, x -> Check.type(x, text), BuntingBundles::addAll);
            BuntingBundles x = typed(text);
            Check.thrownBy(x::addAll);
            Check.due("the length of " + text, text.length(), x.clearBuffer());
        }
        Edge.refuses(Edge.ARGUMENT, Edge::rich, BuntingBundles::addAll);
        says(16, "Throws `IllegalStateException` if there would be more than 20 (the buffer stays)");
        Edge.refuses(Edge.STATE, TextEdges::tooMany, BuntingBundles::addAll);
        BuntingBundles x = Edge.made(TextEdges::tooMany);
        Check.thrownBy(x::addAll);
        Check.due("the length", 7, x.clearBuffer());
        Edge.refuses(Edge.STATE, y -> {
            Edge.full(y);
            Check.type(y, "a=1");
        }, BuntingBundles::addAll);
        BuntingBundles z = Edge.made(TextEdges::tooMany);
        Check.thrownBy(z::addAll);
        z.remove(0);
        Check.due("the same buffer, when there is room", 20, z.addAll());
    }

    static void run() {
        many();
        numbers();
        betweens();
        loads();
        stores();
        leftToRight();
        append();
        clear();
        firstError();
        addAll();
        addAllRefused();
    }
}
