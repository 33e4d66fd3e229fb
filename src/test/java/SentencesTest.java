import java.io.IOException;
import java.nio.file.Files;
import java.nio.file.Path;
import java.util.ArrayList;
import java.util.List;
import java.util.Map;
import java.util.TreeMap;
import java.util.regex.Matcher;
import java.util.regex.Pattern;
import java.util.stream.Stream;

/**
 * Whether each sentence of the document has a test that names it: a test tells by check.of(.., "words") which words it
 * looks at. Words that the document doesn't have are wrong, and so are words of it that no test names.
 */
public final class SentencesTest {
    private static final Check check = new Check("SentencesTest");
    private static final Path DOCUMENT = Path.of("../shared/DOC.md");
    private static final Path TESTS = Path.of("src/test/java");
    private static final Pattern QUOTE = Pattern.compile("check\\.of\\((Check\\.TERMS|\\d+), \"([^\"]*)\"\\)");
    private static final Pattern HEADING = Pattern.compile("(?m)^## (?:(Terms)|Promise (\\d+):.*|.*)$");
    /** Headings and what tells only how the document is laid out. */
    private static final String[] NO_CASE = {"THE WORLD", "==== 2. STEPS", "==== 3."};
    private static final int PROMISES = 45;

    public static void main(String[] args) throws IOException {
        if (!Files.exists(DOCUMENT)) {
            System.out.println("SentencesTest: no document here to look into");
            return;
        }
        Map<Integer, String> parts = parts(Files.readString(DOCUMENT));
        Map<Integer, boolean[]> named = new TreeMap<>();
        for (Map.Entry<Integer, String> part : parts.entrySet()) {
            named.put(part.getKey(), new boolean[part.getValue().length()]);
        }
        check.due("the Terms and the promises", parts.size(), PROMISES + 1);
        for (Path file : testFiles()) {
            Matcher quote = QUOTE.matcher(Files.readString(file));
            while (quote.find()) {
                int number = quote.group(1).equals("Check.TERMS") ? Check.TERMS : Integer.parseInt(quote.group(1));
                boolean isFound = parts.containsKey(number) && mark(parts.get(number), named.get(number), quote.group(2));
                check.due(file.getFileName() + ": '" + quote.group(2) + "' stands there", isFound ? 1 : 0, 1);
            }
        }
        for (Map.Entry<Integer, String> part : parts.entrySet()) {
            String rest = rest(part.getValue(), named.get(part.getKey()));
            check.same("words of part " + part.getKey() + " that no test names", rest, "");
        }
        check.end();
    }

    private static List<Path> testFiles() throws IOException {
        try (Stream<Path> files = Files.list(TESTS)) {
            return new ArrayList<>(files.filter(f -> f.toString().endsWith("Test.java")).sorted().toList());
        }
    }

    /** The text of the Terms (0) and of each promise, blanks made one, without the face's own words, which FaceTest has. */
    private static Map<Integer, String> parts(String document) {
        Map<Integer, String> parts = new TreeMap<>();
        Matcher heading = HEADING.matcher(document);
        int number = -1;
        int begin = 0;
        while (heading.find()) {
            put(parts, number, document.substring(begin, heading.start()));
            number = heading.group(1) != null ? Check.TERMS : heading.group(2) != null ? Integer.parseInt(heading.group(2)) : -1;
            begin = heading.end();
        }
        put(parts, number, document.substring(begin));
        return parts;
    }

    private static void put(Map<Integer, String> parts, int number, String text) {
        if (number >= 0) {
            String bare = text.replaceAll("(?m)^```.*$", "").replaceAll("`[^`]*`:", "");
            parts.put(number, bare.replaceAll("\\s+", " ").trim());
        }
    }

    /** Marks each place where these words stand: one sentence may be told twice. */
    private static boolean mark(String text, boolean[] marks, String words) {
        boolean isFound = false;
        for (int at = text.indexOf(words); at >= 0; at = text.indexOf(words, at + 1)) {
            isFound = true;
            for (int i = 0; i < words.length(); i++) {
                marks[at + i] = true;
            }
        }
        return isFound;
    }

    private static String rest(String text, boolean[] marks) {
        for (String words : NO_CASE) {
            mark(text, marks, words);
        }
        StringBuilder rest = new StringBuilder();
        for (int i = 0; i < text.length(); i++) {
            char sign = text.charAt(i);
            boolean isWord = Character.isLetterOrDigit(sign) || sign == '-';
            rest.append(!marks[i] && isWord ? sign : ' ');
        }
        return rest.toString().replaceAll("\\s+", " ").trim();
    }
}
