import java.io.IOException;
import java.nio.file.Files;
import java.nio.file.Path;
import java.util.ArrayList;
import java.util.List;
import java.util.regex.Matcher;
import java.util.regex.Pattern;
import java.util.stream.Stream;

/**
 * Each sentence that the Edge tests name (Due.about) stands in the document, where they say; and together they leave
 * no word of its terms and promises out.
 */
public final class SentenceTest {
    private static final Path DOCUMENT = Path.of("../shared/DOC.md");
    private static final Pattern ABOUT = Pattern.compile("Due\\.about\\(\"([^\"]*)\",((?:\\s*\\+?\\s*\"[^\"]*\")+)\\)");
    private static final Pattern WRITTEN = Pattern.compile("\"([^\"]*)\"");

    public static void main(String[] args) throws IOException {
        String document = Files.readString(DOCUMENT);
        List<String[]> named = named();
        Due.isTrue("sentences are named", named.size() > 100);
        List<String> places = new ArrayList<>(List.of("What it is", "Terms 1", "Terms 2", "Terms 3"));
        for (int promise = 1; promise <= 20; promise++) {
            places.add("Promise " + promise);
        }
        for (String[] one : named) {
            Due.isTrue("'" + one[0] + "' is a place", places.contains(one[0]));
        }
        for (String place : places) {
            compare(place, words(document, place), named);
        }
        Due.finish();
    }

    private static void compare(String place, String words, List<String[]> named) {
        boolean[] covered = new boolean[words.length()];
        for (String[] one : named) {
            if (one[0].equals(place)) {
                int at = words.indexOf(one[1]);
                Due.isTrue(place + " has '" + one[1] + "'", at >= 0);
                for (int k = at; at >= 0 && k < at + one[1].length(); k++) {
                    covered[k] = true;
                }
            }
        }
        StringBuilder left = new StringBuilder();
        for (int k = 0; k < words.length(); k++) {
            left.append(covered[k] || !Character.isLetterOrDigit(words.charAt(k)) ? ' ' : words.charAt(k));
        }
        boolean whole = !place.equals("What it is");
        Due.same("words of " + place + " that no test names", whole ? plain(left.toString()) : "", "");
    }

    private static List<String[]> named() throws IOException {
        List<Path> files;
        try (Stream<Path> all = Files.list(Path.of("src/test/java"))) {
            files = all.filter(p -> p.getFileName().toString().startsWith("Edge")).sorted().toList();
        }
        List<String[]> named = new ArrayList<>();
        for (Path file : files) {
            Matcher about = ABOUT.matcher(Files.readString(file));
            while (about.find()) {
                StringBuilder words = new StringBuilder();
                Matcher written = WRITTEN.matcher(about.group(2));
                while (written.find()) {
                    words.append(written.group(1));
                }
                named.add(new String[] {about.group(1), plain(words.toString())});
            }
        }
        return named;
    }

    /** The document's words at a place, without heads, fences and the calls' own heads. */
    private static String words(String document, String place) {
        switch (place) {
            case "What it is":
                return plain(between(document, "## What it is", "## The public face"));
            case "Terms 1":
                return plain(between(document, "## Terms", "==== 2."));
            case "Terms 2":
                return plain(between(document, "==== 2.", "==== 3."));
            case "Terms 3":
                return plain(between(document, "==== 3.", "## Promise 1:"));
            default:
                String section = between(document, "## " + place + ":", "\n## ");
                return plain(section.replaceFirst("^[^\n]*", "").replaceFirst("`[^`]*`: ", ""));
        }
    }

    private static String between(String document, String from, String to) {
        int begin = document.indexOf(from);
        int end = begin < 0 ? -1 : document.indexOf(to, begin + from.length());
        Due.isTrue("the document has " + from + " and " + to, end >= 0);
        return end < 0 ? "" : document.substring(begin + from.length(), end);
    }

    private static String plain(String text) {
        return text.replace("```text", " ").replace("```", " ").replaceAll("\\s+", " ").trim();
    }
}
