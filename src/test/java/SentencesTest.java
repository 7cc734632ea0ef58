import java.io.IOException;
import java.nio.charset.StandardCharsets;
import java.nio.file.Files;
import java.nio.file.Path;
import java.util.ArrayList;
import java.util.List;
import java.util.Map;
import java.util.TreeMap;
import java.util.regex.Matcher;
import java.util.regex.Pattern;
import java.util.stream.Stream;

/** Each word of the document's terms and promises stands in the words of some test (Due.by), and no test has words that it has not. */
final class SentencesTest {
    private static final Path DOCUMENT = Path.of("../shared/DOC.md");
    private static final Path TESTS = Path.of("src/test/java");
    private static final String STRING = "\"((?:[^\"\\\\]|\\\\.)*)\"";

    public static void main(String[] args) throws IOException {
        if (!Files.exists(DOCUMENT)) {
            System.out.println("no " + DOCUMENT + " is here: its words are not looked at");
            return;
        }
        Map<String, String> parts = parts(Files.readString(DOCUMENT, StandardCharsets.UTF_8));
        Due.is("terms and promises in " + DOCUMENT, parts.size(), 1 + 6 + 24);
        Map<String, boolean[]> marks = new TreeMap<>();
        parts.forEach((name, text) -> marks.put(name, new boolean[text.length()]));
        for (Path test : tests()) {
            String source = Files.readString(test, StandardCharsets.UTF_8).replaceAll("\"\\s*\\+\\s*\"", "");
            Matcher said = Pattern.compile("Due\\.by\\(" + STRING + ",\\s*" + STRING + "\\)").matcher(source);
            while (said.find()) {
                Due.is(test + ": \"" + said.group(2) + "\" stands in " + said.group(1),
                    mark(parts.get(said.group(1)), marks.get(said.group(1)), said.group(2)), true);
            }
        }
        parts.forEach((name, text) -> Due.is("untested in " + name + ": \"" + unmarked(text, marks.get(name)) + "\"",
            unmarked(text, marks.get(name)).isEmpty(), true));
        Due.finish();
    }

    private static List<Path> tests() throws IOException {
        try (Stream<Path> all = Files.list(TESTS)) {
            return all.filter(p -> p.toString().endsWith("Test.java") && !p.endsWith("SentencesTest.java")).sorted().toList();
        }
    }

    /** The use of an object, the six parts of the terms, and the promises, each in one line. */
    private static Map<String, String> parts(String document) {
        Map<String, String> parts = new TreeMap<>();
        for (String section : document.split("(?m)^## ")) {
            String title = section.split("\n", 2)[0];
            String text = section.substring(title.length()).replaceAll("```(text)?", " ").replaceAll("\\s+", " ").trim();
            if (title.equals("What it is")) {
                parts.put(title, text.substring(Math.max(0, text.indexOf("==== 1.") + 7)).trim());
            } else if (title.equals("Terms")) {
                String[] all = text.split("==== \\d\\.");
                for (int i = 0; i < all.length; i++) {
                    parts.put("Terms " + (i + 1), all[i].trim());
                }
            } else if (title.startsWith("Promise ")) {
                parts.put(title.replaceAll(":.*$", ""), text.replaceFirst("^`[^`]*`:", "").trim());
            }
        }
        return parts;
    }

    private static boolean mark(String text, boolean[] marks, String said) {
        if (text == null || said.isEmpty()) {
            return false;
        }
        List<Integer> places = new ArrayList<>();
        for (int at = text.indexOf(said); at >= 0; at = text.indexOf(said, at + 1)) {
            places.add(at);
        }
        for (int at : places) {
            for (int i = 0; i < said.length(); i++) {
                marks[at + i] = true;
            }
        }
        return !places.isEmpty();
    }

    private static String unmarked(String text, boolean[] marks) {
        StringBuilder left = new StringBuilder();
        for (int i = 0; i < text.length(); i++) {
            left.append(marks[i] || !Character.isLetterOrDigit(text.charAt(i)) ? ' ' : text.charAt(i));
        }
        return left.toString().replaceAll("\\s+", " ").trim();
    }
}
