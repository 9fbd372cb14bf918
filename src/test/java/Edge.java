import java.io.IOException;
import java.nio.file.Files;
import java.nio.file.Path;
import java.util.List;
import java.util.function.IntToLongFunction;

/**
 * What the tests of boundary sentences share. Each such test quotes the words that it holds to (they
 * must stand in the document under the heading that it names), and asks on both sides of their
 * boundary: within it, up to the last input, and past it, from the first one on.
 */
final class Edge {
    private static final List<String> DOCUMENT = document(Path.of("../shared/DOC.md"));

    private static String sentence = "";
    private static boolean isTwoSided;
    private static int askedWithin;
    private static int askedPast;

    private Edge() {
    }

    static void says(String heading, String words) {
        begin(heading, words, true);
    }

    /** For words whose other side the document leaves free. */
    static void saysOneSided(String heading, String words) {
        begin(heading, words, false);
    }

    static void within(String call, long got, long due) {
        askedWithin++;
        Check.due(sentence + " within: " + call, got, due);
    }

    static void past(String call, long got, long due) {
        askedPast++;
        Check.due(sentence + " past: " + call, got, due);
    }

    /** Every number from least to most answers as due; those beside them and the furthest are BEYOND. */
    static void range(String name, int least, int most, IntToLongFunction act, IntToLongFunction due) {
        for (int v = least; v <= most; v++) {
            within(name + " " + v, act.applyAsLong(v), due.applyAsLong(v));
        }
        for (int v : new int[] {least - 1, most + 1, Check.LEAST, Check.MOST}) {
            past(name + " " + v, act.applyAsLong(v), Check.BEYOND);
        }
    }

    static void end() {
        close();
        Check.end();
    }

    private static void begin(String heading, String words, boolean twoSided) {
        close();
        sentence = heading + " \"" + words + "\"";
        isTwoSided = twoSided;
        askedWithin = 0;
        askedPast = 0;
        Check.holds(sentence + " stands in the document", DOCUMENT.isEmpty() || stands(heading, words));
    }

    private static void close() {
        if (!sentence.isEmpty()) {
            Check.holds(sentence + " was asked within", askedWithin > 0);
            Check.holds(sentence + " was asked past", askedPast > 0 == isTwoSided);
        }
    }

    private static boolean stands(String heading, String words) {
        boolean isUnder = false;
        for (String line : DOCUMENT) {
            if (line.startsWith("## ")) {
                isUnder = line.equals("## " + heading) || line.startsWith("## " + heading + ":");
            } else if (isUnder && line.contains(words)) {
                return true;
            }
        }
        return false;
    }

    /** Without the document the calls are asked all the same; only the quoted words go unseen. */
    private static List<String> document(Path path) {
        try {
            return Files.readAllLines(path);
        } catch (IOException e) {
            System.out.println("the document isn't at " + path + ": quoted words are not looked up");
            return List.of();
        }
    }
}
