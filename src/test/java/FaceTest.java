import java.lang.reflect.Method;
import java.lang.reflect.Modifier;
import java.nio.file.Files;
import java.nio.file.Path;
import java.util.Arrays;
import java.util.Set;
import java.util.TreeSet;
import java.util.regex.Pattern;

/** The public face as the document has it, and the rules of the language that a text can show. */
final class FaceTest {
    private static final Class<?> X = IndexOutOfBoundsException.class;
    private static final Class<?> A = IllegalArgumentException.class;
    private static final Class<?> S = IllegalStateException.class;
    private static final Set<String> NAMES = new TreeSet<>();

    private static void method(Class<?> answer, String name, int numbers, Class<?>... thrown)
            throws Exception {
        Class<?>[] arguments = new Class<?>[numbers];
        Arrays.fill(arguments, int.class);
        NAMES.add(name);
        Method method = BuntingBundles.class.getDeclaredMethod(name, arguments);
        Check.yes(name + " is public", method.getModifiers() == Modifier.PUBLIC);
        Check.yes(name + " answers " + answer, method.getReturnType() == answer);
        Check.yes(name + " throws " + Arrays.toString(thrown),
                Arrays.equals(method.getExceptionTypes(), thrown));
    }

    private static void constant(String name, int value) throws Exception {
        var field = BuntingBundles.class.getDeclaredField(name);
        Check.due(name, value, field.getInt(null));
        Check.yes(name + " is a public constant", field.getModifiers()
                == (Modifier.PUBLIC | Modifier.STATIC | Modifier.FINAL));
    }

    private static void changes() throws Exception {
        method(int.class, "insert", 6, X, A, S);
        method(int.class, "remove", 1, X);
        method(int.class, "exchange", 2, X);
        method(int.class, "setRegister", 2, X);
        method(int.class, "setCell", 2, X);
        method(int.class, "setSlots", 2, X, A);
        method(int.class, "setLatency", 2, X, A);
        method(int.class, "setDelay", 1, A);
        method(int.class, "lay", 2, X, A);
        method(int.class, "takeOut", 1, X, S);
        method(int.class, "pack", 0);
        method(int.class, "append", 1, A, S);
        method(int.class, "clearBuffer", 0);
        method(int.class, "firstError", 0);
        method(int.class, "addAll", 0, A, S);
        method(int.class, "undo", 0, S);
        method(int.class, "savedStates", 0);
        method(int.class, "keep", 0);
        method(int.class, "goBack", 0, S);
    }

    private static void answers() throws Exception {
        for (String name : new String[] {"steps", "spanByHeights", "spanByEarliest", "bundles",
            "whyWrong", "wrongAt", "wouldPack", "beatByUnits", "beatByCircles", "beatByRounds",
            "beat", "jumpBundle", "overlap"}) {
            method(int.class, name, 0);
        }
        for (String name : new String[] {"kindOf", "readBy", "writtenBy", "latencyOf", "heightOf",
            "earliestOf", "bundleOf", "registerInOrder", "registerInBundles", "cellInOrder",
            "cellInBundles", "loopBundleOf"}) {
            method(int.class, name, 1, X);
        }
        for (String name : new String[] {"separation", "carried"}) {
            method(int.class, name, 2, X);
        }
        for (String name : new String[] {"registerAt", "registerInLoop", "registerInRounds",
            "cellInLoop"}) {
            method(int.class, name, 2, X, A);
        }
        method(int.class, "stepsIn", 1, A);
        method(int.class, "loopBundles", 1, A);
        method(double.class, "filledShare", 0);
        method(boolean.class, "doesAgree", 0);
        method(long.class, "digest", 0);
    }

    private static void nothingElse() {
        Class<?> c = BuntingBundles.class;
        Check.yes("the class is public and final",
                c.getModifiers() == (Modifier.PUBLIC | Modifier.FINAL));
        Check.due("constructors", 1, c.getDeclaredConstructors().length);
        for (Method method : c.getDeclaredMethods()) {
            boolean isFace = NAMES.contains(method.getName());
            Check.yes(method + " is of the face or private",
                    isFace == Modifier.isPublic(method.getModifiers())
                            && (isFace || Modifier.isPrivate(method.getModifiers())));
        }
        for (var field : c.getDeclaredFields()) {
            Check.yes(field + " is of the face or private",
                    Modifier.isPrivate(field.getModifiers())
                            || field.getName().matches("NONE|FREE|SET|ADD|LESS|TIMES|GREATER|LOAD|STORE"));
        }
        for (Class<?> inside : c.getDeclaredClasses()) {
            Check.yes(inside + " is static and not public", Modifier.isStatic(inside.getModifiers())
                    && !Modifier.isPublic(inside.getModifiers()));
            for (Method method : inside.getDeclaredMethods()) {
                Check.yes(method + " has a name of its own", !NAMES.contains(method.getName()));
                Check.yes(method + " takes at most seven", method.getParameterCount() <= 7);
            }
        }
        Check.yes("at most twelve classes", c.getDeclaredClasses().length < 12);
    }

    /** Words that LANGUAGE.md leaves out, looked for in the text without its comments. */
    private static void language() throws Exception {
        String text = Files.readString(Path.of("src/main/java/BuntingBundles.java"));
        Check.yes("signs are 1 to 127", text.chars().allMatch(sign -> sign >= 1 && sign <= 127));
        String code = text.replaceAll("(?s)/\\*.*?\\*/", " ").replaceAll("//[^\n]*", " ");
        for (String word : new String[] {"import", "package", "->", "::", "Double\\.", "Float\\.",
            "Exact\\(", "\\bcatch\\b", "finally", "synchronized", "\\bassert\\b", "getMessage",
            "instanceof", "System\\.(?!arraycopy)", "Math\\.(?!max\\(|min\\(|floorMod\\()",
            "\"\\s*\\+", "\\+\\s*\"", "\\[\\]\\[\\]", "(public|protected) (?!final class|static"
            + " final int|int |double |boolean |long |BuntingBundles\\(\\))"}) {
            Check.yes("the program has no " + word, !Pattern.compile(word).matcher(code).find());
        }
        for (String body : code.split("\n    (    )?\\}\n")) {
            Check.yes("a method stays short", body.split("\n").length < 75);
        }
    }

    public static void main(String[] args) throws Exception {
        constant("NONE", -1);
        constant("FREE", -99);
        constant("SET", 0);
        constant("ADD", 1);
        constant("LESS", 2);
        constant("TIMES", 3);
        constant("GREATER", 4);
        constant("LOAD", 5);
        constant("STORE", 6);
        changes();
        answers();
        nothingElse();
        language();
        Check.finish("FaceTest");
    }
}
