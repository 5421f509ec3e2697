import java.io.IOException;
import java.nio.file.Files;
import java.nio.file.Path;
import java.util.TreeMap;

/**
 * Words of the document, each with a test of its own. What is quoted must stand in its section, and just once; at the
 * end every word of the 'Terms' and of the promises must have been quoted.
 */
final class Edges {
    static final int WHAT_IT_IS = -1;
    static final int TERMS = 0;
    private static final int PROMISES = 47;

    private static final TreeMap<Integer, String> SECTIONS = new TreeMap<>();
    private static final TreeMap<Integer, boolean[]> QUOTED = new TreeMap<>();

    private Edges() {
    }

    static void read(Path document) throws IOException {
        for (String part : Files.readString(document).replaceAll("(?m)^```.*$", "").split("(?m)^## ")) {
            int number = numberOf(part);
            if (number < WHAT_IT_IS) {
                continue;
            }
            String words = plain(part.substring(part.indexOf('\n') + 1));
            SECTIONS.put(number, words);
            boolean[] quoted = new boolean[words.length()];
            // The call itself, `int sign(int v)`, is what FaceTest looks at.
            for (int i = 0; words.startsWith("`") && i < words.indexOf("`: "); i++) {
                quoted[i] = true;
            }
            QUOTED.put(number, quoted);
        }
        Check.eq("promises of the document", SECTIONS.size(), PROMISES + 2);
    }

    private static int numberOf(String part) {
        if (part.startsWith("What it is")) {
            return WHAT_IT_IS;
        }
        if (part.startsWith("Terms")) {
            return TERMS;
        }
        return part.startsWith("Promise ") ? Integer.parseInt(part.substring(8, part.indexOf(':'))) : WHAT_IT_IS - 1;
    }

    private static String plain(String words) {
        return words.replaceAll("\\s+", " ").trim();
    }

    static void edge(int promise, String words, Check.Call test) {
        Check.about(promise + ": " + words + ": ");
        quote(promise, plain(words));
        int ahead = Check.made();
        try {
            test.run();
        } catch (RuntimeException e) {
            Check.yes("it threw " + e, false);
        }
        Check.yes("something was looked at", Check.made() > ahead);
        Check.about("");
    }

    private static void quote(int promise, String words) {
        String section = SECTIONS.getOrDefault(promise, "");
        int at = section.indexOf(words);
        Check.yes("the document says so", at >= 0);
        Check.eq("it says so once", section.lastIndexOf(words), at);
        for (int i = 0; at >= 0 && i < words.length(); i++) {
            QUOTED.get(promise)[at + i] = true;
        }
    }

    static void allIsQuoted() {
        for (int promise = TERMS; promise <= PROMISES; promise++) {
            StringBuilder left = new StringBuilder();
            for (int i = 0; i < SECTIONS.get(promise).length(); i++) {
                left.append(QUOTED.get(promise)[i] ? ' ' : SECTIONS.get(promise).charAt(i));
            }
            String words = plain(left.toString());
            Check.no(promise + ": no test is about '" + words + "'", words.matches(".*[A-Za-z0-9].*"));
        }
    }
}
