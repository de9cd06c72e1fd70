import java.io.IOException;
import java.lang.reflect.Field;
import java.lang.reflect.Modifier;
import java.nio.file.Files;
import java.nio.file.Path;
import java.util.LinkedHashMap;
import java.util.Map;
import java.util.regex.Matcher;
import java.util.regex.Pattern;

/** Rules 8 and 10 of LANGUAGE.md, as far as a scan of the source can see; FaceTest has the others. */
public final class LanguageTest {
    private static final Due DUE = new Due("language");
    private static final int MOST_DEPTH = 6;
    private static final int MOST_LINES = 60;
    private static final int MOST_FIELDS = 40;
    /** Stands for a depth that no finite chain of calls can have. */
    private static final int ENDLESS = 1000;

    public static void main(String[] args) throws IOException {
        String source = Files.readString(Path.of("src/main/java/SmtCore.java"));
        String bare = source.replaceAll("(?s)/\\*.*?\\*/", " ").replaceAll("//[^\n]*", " ");
        Map<String, String> bodies = methodsOf(bare);
        DUE.same("methods found", bodies.size(), SmtCore.class.getDeclaredMethods().length);
        for (Map.Entry<String, String> method : bodies.entrySet()) {
            String name = method.getKey();
            int depth = depth(name, bodies, 1);
            DUE.same("rule 8, " + name + " calls itself", depth >= ENDLESS ? 1 : 0, 0);
            DUE.same("rule 10, " + name + " goes " + depth + " deep", depth > MOST_DEPTH ? 1 : 0, 0);
            long lines = method.getValue().lines().count();
            DUE.same("rule 10, " + name + " has " + lines + " lines", lines > MOST_LINES ? 1 : 0, 0);
        }
        noCallInsideArguments(bare, bodies);
        everyLoopCountsToABound(bare);
        fewFields();
        DUE.end();
    }

    /** Each method's text by its name; the class has no two methods of one name. */
    private static Map<String, String> methodsOf(String bare) {
        Map<String, String> bodies = new LinkedHashMap<>();
        Pattern whole = Pattern.compile("(?ms)^    (?:public|private)(?: static)? \\w+ (\\w+)\\(.*?^    }");
        Matcher method = whole.matcher(bare);
        while (method.find()) {
            bodies.put(method.group(1), method.group().substring(method.group().indexOf('{')));
        }
        return bodies;
    }

    private static int depth(String name, Map<String, String> bodies, int above) {
        if (above > bodies.size()) {
            return ENDLESS;
        }
        int deepest = 0;
        for (String called : bodies.keySet()) {
            if (Pattern.compile("\\b" + called + "\\(").matcher(bodies.get(name)).find()) {
                deepest = Math.max(deepest, depth(called, bodies, above + 1));
            }
        }
        return 1 + deepest;
    }

    private static void noCallInsideArguments(String bare, Map<String, String> bodies) {
        Pattern call = Pattern.compile("\\b(" + String.join("|", bodies.keySet()) + ")\\(");
        Matcher found = call.matcher(bare);
        while (found.find()) {
            int open = 1;
            int end = found.end();
            while (open > 0) {
                open += bare.charAt(end) == '(' ? 1 : bare.charAt(end) == ')' ? -1 : 0;
                end++;
            }
            String arguments = bare.substring(found.end(), end - 1);
            DUE.same("rule 10, a call inside " + found.group(1) + "(" + arguments + ")",
                call.matcher(arguments).find() ? 1 : 0, 0);
        }
    }

    private static void everyLoopCountsToABound(String bare) {
        Matcher loop = Pattern.compile("\\b(?:for|while|do)\\b[^\n]*").matcher(bare);
        Pattern counted = Pattern.compile("for \\(int (\\w+) = \\d+; \\1 < \\w+( && [^;|]+)?; \\1\\+\\+\\) \\{");
        while (loop.find()) {
            String head = loop.group().strip();
            DUE.same("rule 8, a counter against a bound: " + head, counted.matcher(head).matches() ? 1 : 0, 1);
        }
    }

    private static void fewFields() {
        int fields = 0;
        for (Field field : SmtCore.class.getDeclaredFields()) {
            fields += Modifier.isStatic(field.getModifiers()) ? 0 : 1;
        }
        DUE.same("rule 10, " + fields + " fields", fields > MOST_FIELDS ? 1 : 0, 0);
    }
}
