import java.io.IOException;
import java.nio.file.Files;
import java.nio.file.Path;
import java.util.Arrays;
import java.util.HashSet;
import java.util.Map;
import java.util.Set;
import java.util.TreeMap;
import java.util.regex.Matcher;
import java.util.regex.Pattern;

/** Words of ../shared/DOC.md, each with the answers that stand for it; and whether some have none. */
final class Doc {
    /** All that stands ahead of the promises. */
    static final int TERMS = 0;
    private static final int PROMISES = 41;
    private static final Path FILE = Path.of("../shared/DOC.md");
    private static final Pattern REFUSAL =
        Pattern.compile("(?:NONE(?: - [0-9]+)?|-2|NoSuchElementException): ([^.;(]+)");
    private static final Pattern BOUND = Pattern.compile("\\([0-9]+ to [0-9]+\\)|\\([ik] NONE\\)");
    /** Heads, the calls' names, and signs ahead of refusals, whose words are counted by themselves. */
    private static final Pattern FRAME = Pattern.compile("(?m)^[0-9]+: [\\w ]+$|^`[^`]*`:|^```\\w*$|==== 2\\."
        + "|(?:NONE(?: - [0-9]+)?|-2|NoSuchElementException): ");

    private static final Map<Integer, String> PARTS = parts();
    private static final Map<Integer, Set<String>> TESTED = new TreeMap<>();
    private static int askedBefore = -1;

    private Doc() {
    }

    private static Map<Integer, String> parts() {
        String all;
        try {
            all = Files.readString(FILE);
        } catch (IOException e) {
            throw new IllegalStateException("no document at " + FILE, e);
        }
        Map<Integer, String> found = new TreeMap<>();
        String[] pieces = all.split("\n## Promise ");
        found.put(TERMS, pieces[0]);
        for (int k = 1; k < pieces.length; k++) {
            int colon = pieces[k].indexOf(':');
            found.put(Integer.parseInt(pieces[k].substring(0, colon)), pieces[k].split("\n## ")[0]);
        }
        return found;
    }

    /** The answers that follow are what these words ask for. */
    static void says(int promise, String words) {
        endSentence();
        Due.head((promise == TERMS ? "terms" : "promise " + promise) + ", '" + words + "': ");
        Due.holds("these words stand in the document",
            PARTS.getOrDefault(promise, "").contains(words));
        TESTED.computeIfAbsent(promise, k -> new HashSet<>()).add(words);
        askedBefore = Due.asked();
    }

    private static void endSentence() {
        Due.holds("some answer stands for these words", Due.asked() > askedBefore);
    }

    /** What stands ahead of 'Terms' says in short what they say, or is read by FaceTest; so are heads of calls. */
    private static String toTell(int promise, String part) {
        return promise != TERMS ? part : part.split("\n## Terms\n")[1].split("\n\nAhead of the calls")[0];
    }

    /** No word of the document has been left out: each stands in words that says was given. */
    private static void nothingLeft(int promise, String part, Set<String> told) {
        char[] rest = part.toCharArray();
        Matcher m = FRAME.matcher(part);
        while (m.find()) {
            Arrays.fill(rest, m.start(), m.end(), '\n');
        }
        for (String words : told) {
            for (int at = part.indexOf(words); at >= 0; at = part.indexOf(words, at + 1)) {
                Arrays.fill(rest, at, at + words.length(), '\n');
            }
        }
        for (String words : new String(rest).split("\n")) {
            Due.holds("promise " + promise + ", '" + words + "' has a test", !words.matches(".*[A-Za-z0-9].*"));
        }
    }

    /** Each refusal and each bound that a promise names has been told by says, and all other words. */
    static void allSaid() {
        endSentence();
        Due.head("");
        Due.is("promises", PARTS.size() - 1, PROMISES);
        PARTS.forEach((promise, part) -> {
            Set<String> told = TESTED.getOrDefault(promise, Set.of());
            Due.holds("promise " + promise + " has a test", !told.isEmpty());
            nothingLeft(promise, toTell(promise, part), told);
            if (promise == TERMS) {
                return;
            }
            Matcher m = REFUSAL.matcher(part);
            while (m.find()) {
                for (String words : m.group(1).trim().split(", ")) {
                    Due.holds("promise " + promise + ", '" + words + "' has a test", told.contains(words));
                }
            }
            m = BOUND.matcher(part);
            while (m.find()) {
                Due.holds("promise " + promise + ", '" + m.group() + "' has a test", told.contains(m.group()));
            }
        });
    }
}
