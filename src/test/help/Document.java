import java.io.IOException;
import java.nio.file.Files;
import java.nio.file.Path;
import java.util.ArrayList;
import java.util.LinkedHashMap;
import java.util.List;
import java.util.Map;

/** The document's sections. What is quoted is marked, so that words without a test are found. */
final class Document {
    private final Map<String, String> sections = new LinkedHashMap<>();
    private final Map<String, boolean[]> quoted = new LinkedHashMap<>();

    Document(Path path) throws IOException {
        for (String section : Files.readString(path).split("\n## ")) {
            int end = section.indexOf('\n');
            String title = section.substring(0, Math.max(end, 0)).trim();
            // A promise begins with the call's signature, which the test of the face looks at.
            String body = plain(section.substring(Math.max(end, 0)).trim().replaceFirst("^`[^`]*`:", ""));
            sections.put(title, body);
            quoted.put(title, new boolean[body.length()]);
        }
    }

    private static String plain(String text) {
        return text.replaceAll("```text|`", "").replaceAll("==== \\d+\\.", "").replaceAll("\\s+", " ");
    }

    /** Whether the section has these words. */
    boolean quote(String title, String words) {
        String body = sections.getOrDefault(title, "");
        int at = body.indexOf(words);
        for (int i = 0; at >= 0 && i < words.length(); i++) {
            quoted.get(title)[at + i] = true;
        }
        return at >= 0;
    }

    /** What of the terms and the promises no test has named. */
    List<String> unquoted() {
        List<String> result = new ArrayList<>();
        sections.forEach((title, body) -> {
            StringBuilder rest = new StringBuilder();
            for (int i = 0; i < body.length(); i++) {
                rest.append(quoted.get(title)[i] ? '\n' : body.charAt(i));
            }
            for (String piece : rest.toString().split("\n+")) {
                if ((title.equals("Terms") || title.startsWith("Promise")) && piece.matches(".*\\w.*")) {
                    result.add(title + ": " + piece.trim());
                }
            }
        });
        return result;
    }
}
