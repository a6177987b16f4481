import java.io.IOException;
import java.nio.file.Files;
import java.nio.file.Path;
import java.util.ArrayList;
import java.util.Arrays;
import java.util.List;
import java.util.regex.Matcher;
import java.util.regex.Pattern;

/**
 * The document itself, ../shared/DOC.md, against the class and the tests: the class has the face that
 * stands there, in its order; the edge tests quote only what stands there; and what is left of the
 * terms and of each promise when all quotes are taken away is no sentence. So a sentence that is new
 * in the document, or that has changed, shows here until a test quotes it.
 */
public final class DocumentTest {
    private static final int PROMISES = 25;
    private static final Pattern QUOTE = Pattern.compile("\\bon\\((?:(\\d+), )?\"((?:[^\"\\\\]|\\\\.)*)\"\\);");
    private static final Due DUE = new Due();

    private record Quote(int promise, String words) { }

    private DocumentTest() { }

    public static void main(String[] args) throws IOException {
        String document = read("../shared/DOC.md");
        String source = read("src/main/java/BuoyReader.java");
        face(document, source);
        interfaceWords(document, source);
        List<Quote> quotes = quotes();
        DUE.is("there are quotes", quotes.size() > 100, true);
        for (int promise = 1; promise <= PROMISES; promise++) {
            quoted("promise " + promise, promiseText(document, promise), quotes, promise);
        }
        quoted("the terms", termsText(document), quotes, 0);
        DUE.is("no promise behind the last", document.contains("## Promise " + (PROMISES + 1)), false);
        DUE.end();
    }

    private static String read(String path) throws IOException {
        return Files.readString(Path.of(path));
    }

    private static String between(String text, String from, String to) {
        int start = text.indexOf(from);
        int end = start < 0 ? -1 : text.indexOf(to, start + from.length());
        DUE.is("there is " + from + " .. " + to, end >= 0, true);
        return end < 0 ? "" : text.substring(start + from.length(), end);
    }

    // ---- the face

    /** Public heads, as they stand, with the names of their parameters. */
    private static List<String> heads(String code) {
        List<String> found = new ArrayList<>();
        for (String line : code.split("\n")) {
            if (line.startsWith("    public ")) {
                found.add(line.strip().replaceAll("\\s*[;{]$", ""));
            }
        }
        return found;
    }

    private static void face(String document, String source) {
        List<String> due = heads(between(document, "```java\npublic final class BuoyReader {\n", "\n}\n```"));
        DUE.is("heads in the document", due.size(), 27);
        DUE.is("the class " + heads(source) + " has " + due, heads(source).equals(due), true);
        DUE.is("public and final", source.contains("\npublic final class BuoyReader {\n"), true);
    }

    /** "Ahead of the calls .. the interface says: ---- ..": the class says it there too. */
    private static void interfaceWords(String document, String source) {
        Matcher told = Pattern.compile("Ahead of the calls (.*?) the interface says: (---- .*?)\\.\n").matcher(document);
        int found = 0;
        while (told.find()) {
            found++;
            String part = between(source + "    // ----", "    // " + told.group(2) + "\n", "    // ----");
            List<String> calls = new ArrayList<>();
            for (String head : heads(part)) {
                calls.add("`" + head.replaceAll("^public \\w+ (\\w+)\\(.*$", "$1") + "`");
            }
            List<String> due = Arrays.asList(told.group(1).split(", "));
            DUE.is(told.group(2) + " stands ahead of " + calls + ", due is " + due, calls.equals(due), true);
        }
        DUE.is("so many parts", found, 6);
    }

    // ---- the quotes

    private static List<Quote> quotes() throws IOException {
        List<Quote> found = new ArrayList<>();
        for (String test : new String[] {"TermEdgesTest", "CallEdgesTest"}) {
            Matcher m = QUOTE.matcher(read("src/test/java/" + test + ".java"));
            while (m.find()) {
                int promise = m.group(1) == null ? 0 : Integer.parseInt(m.group(1));
                found.add(new Quote(promise, m.group(2)));
            }
        }
        return found;
    }

    private static String promiseText(String document, int promise) {
        String ahead = "\n## Promise " + promise + ": ";
        String text = between(document, ahead, "\n## ");
        return plain(text.replaceFirst("^[^\n]*\n+`[^`]*`: ", ""));
    }

    /** What stands ahead of the face, the terms and the constants. */
    private static String termsText(String document) {
        String calls = between(document, "few enough.\n", "## The public face");
        String terms = between(document, "\n## Terms\n", "\nAhead of the calls");
        return plain(calls + terms).replace("1. THE", "THE").replace("2. LEVEL", "LEVEL").replace("The constants: ", "");
    }

    private static String plain(String text) {
        return text.replaceAll("```(text)?", "").replaceAll("\\s+", " ").strip();
    }

    private static void quoted(String where, String text, List<Quote> quotes, int promise) {
        boolean[] covered = new boolean[text.length()];
        for (Quote quote : quotes) {
            if (quote.promise == promise) {
                DUE.is(where + " says: " + quote.words, cover(text, quote.words, covered), true);
            }
        }
        StringBuilder left = new StringBuilder();
        for (int i = 0; i < text.length(); i++) {
            left.append(covered[i] ? ' ' : text.charAt(i));
        }
        DUE.is(where + ", not quoted by a test: " + left.toString().replaceAll("\\s+", " "),
            Pattern.compile("\\w").matcher(left).find(), false);
    }

    private static boolean cover(String text, String words, boolean[] covered) {
        boolean stands = false;
        for (int at = text.indexOf(words); at >= 0; at = text.indexOf(words, at + 1)) {
            stands = true;
            Arrays.fill(covered, at, at + words.length(), true);
        }
        return stands;
    }
}
