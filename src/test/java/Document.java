import java.nio.file.Files;
import java.nio.file.Path;
import java.util.LinkedHashMap;
import java.util.Map;
import java.util.regex.Matcher;
import java.util.regex.Pattern;

/** The document by its sections: whether a sentence stands there, and which words no test has named. */
final class Document {
    /** Sections by the start of their headings: "Terms", "Promise 1" and so on; blanks of any kind are one blank. */
    private final Map<String, String> sections = new LinkedHashMap<>();
    private final Map<String, boolean[]> named = new LinkedHashMap<>();

    Document(Path file) throws Exception {
        for (String part : Files.readString(file).split("(?m)^## ")) {
            int line = part.indexOf('\n');
            if (line < 0) {
                continue;
            }
            String heading = part.substring(0, line).replaceAll(":.*", "").trim();
            String body = part.substring(line).replace("```text", " ").replace("```", " ").replaceAll("\\s+", " ");
            sections.put(heading, body);
            named.put(heading, new boolean[body.length()]);
        }
    }

    /** Marks a sentence as named by a test; answers whether it stands in that section. */
    boolean says(String section, String sentence) {
        String body = sections.get(section);
        if (body == null || sentence.isEmpty()) {
            return false;
        }
        boolean found = false;
        for (int at = body.indexOf(sentence); at >= 0; at = body.indexOf(sentence, at + 1)) {
            found = true;
            for (int k = 0; k < sentence.length(); k++) {
                named.get(section)[at + k] = true;
            }
        }
        return found;
    }

    /** Takes words that ask for nothing out of what is to be named. */
    void leaveOut(String section, String pattern) {
        String body = sections.getOrDefault(section, "");
        Matcher m = Pattern.compile(pattern).matcher(body);
        while (m.find()) {
            for (int k = m.start(); k < m.end(); k++) {
                named.get(section)[k] = true;
            }
        }
    }

    /** What of a section no test has named, without signs between words; empty if there is nothing. */
    String unnamed(String section) {
        String body = sections.get(section);
        if (body == null) {
            return "there is no such section";
        }
        StringBuilder rest = new StringBuilder();
        for (int k = 0; k < body.length(); k++) {
            rest.append(named.get(section)[k] ? ' ' : body.charAt(k));
        }
        return rest.toString().replaceAll("[^A-Za-z0-9]+", " ").trim();
    }
}
