/** Counts answers that are not as due; each test ends with finish(). */
final class Check {
    interface Call {
        long go();
    }

    private static int checked = 0;
    private static int wrong = 0;
    private static String sentence = "";
    private static int checkedBefore = 0;

    private Check() {
    }

    static void due(String what, long want, long got) {
        checked++;
        if (want != got) {
            wrong++;
            if (wrong <= 30) {
                System.out.println(sentence + what + " answered " + got + ", due is " + want);
            }
        }
    }

    /** The checks behind this are for a sentence of ../shared/DOC.md; it has to stand there. */
    static void says(int promise, String words) {
        endSentence();
        boolean stands = Doc.has(promise, words);
        sentence = "[" + promise + ": " + words + "] ";
        yes("the document says so", stands);
        checkedBefore = checked;
    }

    private static void endSentence() {
        if (!sentence.isEmpty() && checked == checkedBefore) {
            due("checks of this sentence", 1, 0);
        }
        sentence = "";
    }

    static void yes(String what, boolean holds) {
        due(what, 1, holds ? 1 : 0);
    }

    /** The simple name of what a call throws, or "" if it throws nothing. */
    static String thrownBy(Call call) {
        try {
            call.go();
            return "";
        } catch (RuntimeException e) {
            return e.getClass().getSimpleName();
        }
    }

    /** The call has to throw just this, and to change nothing. */
    static void throwing(BuntingBundles x, String what, Class<?> want, Call call) {
        long before = x.digest();
        String got = thrownBy(call);
        yes(what + " throws '" + got + "', due is " + want.getSimpleName(),
                got.equals(want.getSimpleName()));
        due(what + " leaves all as it was", before, x.digest());
    }

    static void type(BuntingBundles x, String text) {
        for (int i = 0; i < text.length(); i++) {
            x.append(text.charAt(i));
        }
    }

    /** A new object with the steps of a text, of any length. */
    static BuntingBundles with(String text) {
        BuntingBundles x = new BuntingBundles();
        if (!text.isEmpty()) {
            for (String step : text.split(";")) {
                type(x, step);
                x.addAll();
            }
        }
        return x;
    }

    static void finish(String name) {
        endSentence();
        System.out.println(name + ": " + checked + " checked, " + wrong + " wrong");
        if (wrong != 0 || checked == 0) {
            System.exit(1);
        }
    }
}
