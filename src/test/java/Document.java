import java.io.IOException;
import java.nio.file.Files;
import java.nio.file.Path;
import java.util.ArrayList;
import java.util.LinkedHashMap;
import java.util.List;
import java.util.Map;

/** The text of the document by its headings, and which part of it the tests have quoted. */
final class Document {
    private final Map<String, String> texts = new LinkedHashMap<>();
    private final Map<String, boolean[]> quoted = new LinkedHashMap<>();

    Document(Path file) throws IOException {
        for (String part : Files.readString(file).split("(?m)^## ")) {
            int end = part.indexOf('\n');
            String heading = part.substring(0, end).strip();
            String text = plain(part.substring(end));
            texts.put(heading, text);
            quoted.put(heading, new boolean[text.length()]);
        }
    }

    /** Without the Java of the public face, which FaceTest compares, and on one line. */
    private static String plain(String text) {
        String prose = text.replaceAll("(?s)```java.*?```", " ").replace("```text", " ").replace("```", " ");
        return prose.replaceAll("\\s+", " ").strip();
    }

    /** Whether the quote stands exactly once under the heading, and no part of it was quoted before. */
    boolean quote(String heading, String quote) {
        String text = texts.getOrDefault(heading, "");
        int from = text.indexOf(quote);
        if (quote.isEmpty() || from < 0 || text.indexOf(quote, from + 1) >= 0) {
            return false;
        }
        boolean fresh = true;
        for (int i = from; i < from + quote.length(); i++) {
            fresh &= !quoted.get(heading)[i];
            quoted.get(heading)[i] = true;
        }
        return fresh;
    }

    /** What nobody quoted, without loose punctuation. */
    List<String> unquoted() {
        List<String> left = new ArrayList<>();
        texts.forEach((heading, text) -> {
            StringBuilder rest = new StringBuilder();
            for (int i = 0; i < text.length(); i++) {
                rest.append(quoted.get(heading)[i] ? '\n' : text.charAt(i));
            }
            rest.toString().lines().filter(line -> line.matches(".*[A-Za-z0-9].*"))
                .forEach(line -> left.add(heading + ": " + line.strip()));
        });
        return left;
    }
}
