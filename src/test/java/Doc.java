import java.io.IOException;
import java.nio.file.Files;
import java.nio.file.Path;
import java.util.BitSet;
import java.util.Map;
import java.util.Set;
import java.util.TreeMap;
import java.util.TreeSet;
import java.util.regex.Pattern;

/** The document's promises as texts, which words of them a test has quoted, and its public face. */
final class Doc {
    /** The number under which "Terms" goes among the promises. */
    static final int TERMS = 0;

    private static final Path FILE = Path.of("../shared/DOC.md");
    private static final String ALL = all();
    private static final Map<Integer, String> NAMES = new TreeMap<>();
    private static final Map<Integer, String> TEXTS = read();
    private static final Map<Integer, BitSet> QUOTED = new TreeMap<>();

    private Doc() {
    }

    /** Marks a sentence as quoted; false if the promise does not say it. */
    static boolean quote(int promise, String sentence) {
        if (TEXTS.isEmpty()) {
            return true;
        }
        int at = TEXTS.getOrDefault(promise, "").indexOf(sentence);
        if (at < 0) {
            return false;
        }
        QUOTED.computeIfAbsent(promise, p -> new BitSet()).set(at, at + sentence.length());
        return true;
    }

    /** The words of a promise that no test has quoted. */
    static String unquoted(int promise) {
        String text = TEXTS.getOrDefault(promise, "");
        BitSet quoted = QUOTED.getOrDefault(promise, new BitSet());
        StringBuilder left = new StringBuilder();
        for (int i = 0; i < text.length(); i++) {
            left.append(quoted.get(i) ? ' ' : text.charAt(i));
        }
        return left.toString().replaceAll("[^A-Za-z0-9]+", " ").strip();
    }

    static boolean isThere() {
        return !ALL.isEmpty();
    }

    /** The calls whose promises say something of this form. */
    static Set<String> callsThatSay(String form) {
        Set<String> calls = new TreeSet<>();
        for (Map.Entry<Integer, String> promise : TEXTS.entrySet()) {
            if (promise.getKey() != TERMS && Pattern.compile(form).matcher(promise.getValue()).find()) {
                calls.add(NAMES.get(promise.getKey()));
            }
        }
        return calls;
    }

    /** The lines of "The public face", without their indent. */
    static String[] face() {
        String from = ALL.substring(ALL.indexOf("```java") + "```java".length());
        return from.substring(0, from.indexOf("```")).strip().split("\\s*\n\\s*");
    }

    private static String all() {
        try {
            return Files.readString(FILE);
        } catch (IOException e) {
            // What a test holds to is known without the document; only whether it says so can't be seen then.
            System.out.println("no " + FILE + ": quotes are taken as they are");
            return "";
        }
    }

    private static Map<Integer, String> read() {
        Map<Integer, String> texts = new TreeMap<>();
        for (String part : ALL.split("(?m)^## ")) {
            if (part.startsWith("Promise ")) {
                int number = Integer.parseInt(part.substring(8, part.indexOf(':')));
                NAMES.put(number, part.substring(part.indexOf(':') + 1, part.indexOf('\n')).strip());
                texts.put(number, plain(part.substring(part.indexOf("`: ") + 3)));
            } else if (part.startsWith("Terms")) {
                texts.put(TERMS, plain(part.substring(5, part.indexOf("Ahead of the calls"))));
            }
        }
        return texts;
    }

    private static String plain(String text) {
        return text.replaceAll("```(text)?", "").replaceAll("(?m)^\\d+\\. ", "").replaceAll("\\s+", " ").strip();
    }
}
