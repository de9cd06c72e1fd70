import java.io.IOException;
import java.nio.file.Files;
import java.nio.file.Path;
import java.util.ArrayList;
import java.util.LinkedHashMap;
import java.util.List;
import java.util.Map;
import java.util.regex.Matcher;
import java.util.regex.Pattern;

/** The text of the class without its comments, for what no call and no reflection can see. */
final class Source {
    private final String bare;

    private Source(String bare) {
        this.bare = bare;
    }

    static Source read() throws IOException {
        String whole = Files.readString(Path.of("src/main/java/SmtCore.java"));
        return new Source(whole.replaceAll("(?s)/\\*.*?\\*/", " ").replaceAll("//[^\n]*", " "));
    }

    String bare() {
        return bare;
    }

    /** The given group of everything that matches. */
    List<String> all(String pattern, int group) {
        List<String> found = new ArrayList<>();
        Matcher matcher = Pattern.compile(pattern).matcher(bare);
        while (matcher.find()) {
            found.add(matcher.group(group));
        }
        return found;
    }

    /** Each method's text by its name; the class has no two methods of one name. */
    Map<String, String> methods() {
        Map<String, String> bodies = new LinkedHashMap<>();
        Pattern whole = Pattern.compile("(?ms)^    (?:public|private)(?: static)? \\w+ (\\w+)\\(.*?^    }");
        Matcher method = whole.matcher(bare);
        while (method.find()) {
            bodies.put(method.group(1), method.group().substring(method.group().indexOf('{')));
        }
        return bodies;
    }
}
