import java.nio.file.Files;
import java.nio.file.Path;
import java.util.ArrayList;
import java.util.LinkedHashSet;
import java.util.List;
import java.util.Map;
import java.util.Set;
import java.util.TreeMap;
import java.util.regex.Matcher;
import java.util.regex.Pattern;

/** The document cut into sentences, and which of them a test has been said to be for. */
final class Doc {
    /** A piece of a sentence; what stands ahead of and behind the promises has the number 0. */
    record Piece(int promise, String text) {
    }

    private static final String PATH = "../shared/DOC.md";

    /** Pieces that ask for nothing, and the lines of the face, which FaceTest looks at. */
    private static final Pattern ASKS_NOTHING = Pattern.compile("(Ahead of the calls|How the state is"
            + " held|Use of one object|Nothing is promised|The constants:|Undo, the snapshot$|---- |`[a-z]+ ?\\w*\\(.*`:$"
            + "|`BuntingBundles\\(\\)`:$).*");

    private static final Map<Integer, StringBuilder> SECTIONS = new TreeMap<>();
    private static final Set<Piece> LEFT = new LinkedHashSet<>();

    static {
        read();
    }

    private Doc() {
    }

    private static void read() {
        Pattern title = Pattern.compile("## (?:Promise (\\d+):)?(.*)");
        int promise = 0;
        boolean counts = false;
        for (String line : lines()) {
            Matcher matcher = title.matcher(line);
            if (matcher.matches()) {
                promise = matcher.group(1) == null ? 0 : Integer.parseInt(matcher.group(1));
                counts = !matcher.group(2).matches("What it is|The public face");
            } else if (counts && !line.isBlank() && !line.startsWith("#") && !line.startsWith("```")) {
                take(promise, line.strip());
            }
        }
    }

    private static List<String> lines() {
        try {
            return Files.readAllLines(Path.of(PATH));
        } catch (java.io.IOException e) {
            return List.of();
        }
    }

    private static void take(int promise, String line) {
        SECTIONS.computeIfAbsent(promise, k -> new StringBuilder()).append(line).append(' ');
        String[] pieces = line.startsWith("- ") ? new String[] {line.substring(2)}
                : line.split("(?<=[.;:]) (?=\\S)");
        for (String piece : pieces) {
            if (!ASKS_NOTHING.matcher(piece).matches()) {
                LEFT.add(new Piece(promise, piece));
            }
        }
    }

    /** Whether the words stand there; the pieces that they have a part in are told then. */
    static boolean has(int promise, String words) {
        LEFT.removeIf(piece -> piece.promise == promise
                && (words.contains(piece.text) || piece.text.contains(words)));
        StringBuilder section = SECTIONS.get(promise);
        return section != null && section.indexOf(words) >= 0;
    }

    static List<Piece> left() {
        return new ArrayList<>(LEFT);
    }

    static int promises() {
        return SECTIONS.size();
    }
}
