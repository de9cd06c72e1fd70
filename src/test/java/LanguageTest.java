import java.io.IOException;
import java.lang.reflect.Field;
import java.lang.reflect.Method;
import java.lang.reflect.Modifier;
import java.util.HashSet;
import java.util.List;
import java.util.Map;
import java.util.Set;
import java.util.regex.Matcher;
import java.util.regex.Pattern;

/** Rules 2 to 11 of LANGUAGE.md, as far as a scan of the source can see; FaceTest has rule 1, NoThrowTest rule 7. */
public final class LanguageTest {
    private static final Due DUE = new Due("language");
    private static final String TYPES = "int|long|short|byte|char|boolean";
    private static final Set<String> WORDS = Set.of("public", "private", "static", "final", "class", "int", "long",
        "short", "byte", "char", "boolean", "void", "if", "else", "for", "while", "do", "switch", "case", "default",
        "break", "continue", "return", "new", "this", "true", "false", "SmtCore");
    private static final int MOST_PARAMETERS = 7;
    private static final int MOST_DEPTH = 6;
    private static final int MOST_LINES = 60;
    private static final int MOST_FIELDS = 40;
    /** Stands for a depth that only a chain of calls without an end is likely to have. */
    private static final int ENDLESS = 1000;

    public static void main(String[] args) throws IOException {
        Source source = Source.read();
        onlyWordsOfItsOwn(source);
        onlyWholeNumbers(source);
        arraysAreMadeOnce(source);
        arraysAreOnlyIndexed(source);
        staticFieldsAreConstants(source);
        divisorsAreLookedAt(source);
        everyLoopCountsToABound(source);
        methodsAreShallowAndShort(source.methods());
        noCallInsideArguments(source.bare(), source.methods());
        fewFields();
        DUE.end();
    }

    /** Rules 2, 3, 6, 9 and 11: a word that is neither the language's nor declared here would be somebody else's. */
    private static void onlyWordsOfItsOwn(Source source) {
        Set<String> known = new HashSet<>(WORDS);
        known.addAll(source.all("\\b(?:" + TYPES + "|void)(?:\\[\\])? (\\w+)", 1));
        for (String word : source.all("(?<![\\w$])[A-Za-z_$][\\w$]*", 0)) {
            DUE.same("rules 2, 3, 6, 9 and 11, the word " + word, known.contains(word) ? 1 : 0, 1);
        }
        for (String mark : source.all("->|::|@|\"|(?<!\\bthis)\\.", 0)) {
            DUE.same("rules 2, 3 and 6, the mark " + mark, 1, 0);
        }
    }

    private static void onlyWholeNumbers(Source source) {
        for (String number : source.all("(?<![\\w$])\\d[\\w.]*", 0)) {
            DUE.same("rule 2, the number " + number, number.matches("\\d+L?|0x[0-9a-f]+L?") ? 1 : 0, 1);
        }
        for (Field field : SmtCore.class.getDeclaredFields()) {
            boolean whole = field.getType().getTypeName().matches("(" + TYPES + ")(\\[\\])?");
            DUE.same("rule 2, the type of " + field, whole ? 1 : 0, 1);
        }
        for (Method method : SmtCore.class.getDeclaredMethods()) {
            boolean whole = method.getReturnType().getTypeName().matches(TYPES + "|void");
            DUE.same("rules 2 and 4, the answer of " + method, whole ? 1 : 0, 1);
        }
    }

    /** Rule 4: in a final field's initialiser, with a literal or a constant for length. */
    private static void arraysAreMadeOnce(Source source) {
        String field = " {4}private final (" + TYPES + ")\\[\\] \\w+ = new \\1\\[([A-Z_]+|\\d+)\\];";
        for (String line : source.all("(?m)^.*(?:\\bnew\\b|\\[\\s*\\]).*$", 0)) {
            DUE.same("rule 4, an array's field: " + line.strip(), line.matches(field) ? 1 : 0, 1);
        }
        SmtCore core = Asm.single();
        for (String name : arrayNames(source)) {
            DUE.same("rule 4, the length of " + name, Inside.array(core, name).length >= 1 ? 1 : 0, 1);
        }
    }

    private static List<String> arrayNames(Source source) {
        return source.all("\\[\\] (\\w+) =", 1);
    }

    /** Rule 4: so no array is answered, compared, assigned or handed on. */
    private static void arraysAreOnlyIndexed(Source source) {
        for (String name : arrayNames(source)) {
            DUE.same("rule 4, without an index: " + name, source.all("\\b" + name + "\\b(?!\\[)", 0).size(), 1);
        }
    }

    private static void staticFieldsAreConstants(Source source) {
        List<String> constants = source.all("static final (?:int|long) (\\w+) = [A-Z_\\d *+-]+;", 1);
        for (Field field : SmtCore.class.getDeclaredFields()) {
            if (Modifier.isStatic(field.getModifiers())) {
                DUE.same("rule 5, a constant: " + field, constants.contains(field.getName()) ? 1 : 0, 1);
            }
        }
        DUE.same("rule 5, static initialisers", source.all("\\bstatic\\s*\\{", 0).size(), 0);
    }

    private static void divisorsAreLookedAt(Source source) {
        for (String line : source.all("(?m)^.*[/%].*$", 0)) {
            boolean safe = line.strip().matches("return (\\w+) == 0 \\? 0 : \\w+ / \\1;");
            DUE.same("rule 7, a divisor is looked at: " + line.strip(), safe ? 1 : 0, 1);
        }
    }

    private static void everyLoopCountsToABound(Source source) {
        Pattern counted = Pattern.compile("for \\(int (\\w+) = \\d+; \\1 < \\w+( && [^;|]+)?; \\1\\+\\+\\) \\{");
        for (String head : source.all("\\b(?:for|while|do)\\b[^\n]*", 0)) {
            boolean bound = counted.matcher(head.strip()).matches();
            DUE.same("rule 8, a counter against a bound: " + head, bound ? 1 : 0, 1);
        }
    }

    private static void methodsAreShallowAndShort(Map<String, String> bodies) {
        DUE.same("methods found", bodies.size(), SmtCore.class.getDeclaredMethods().length);
        for (Map.Entry<String, String> method : bodies.entrySet()) {
            String name = method.getKey();
            int depth = depth(name, bodies, 1);
            DUE.same("rule 8, " + name + " calls itself", depth >= ENDLESS ? 1 : 0, 0);
            DUE.same("rule 10, " + name + " goes " + depth + " deep", depth > MOST_DEPTH ? 1 : 0, 0);
            long lines = method.getValue().lines().count();
            DUE.same("rule 10, " + name + " has " + lines + " lines", lines > MOST_LINES ? 1 : 0, 0);
        }
        for (Method method : SmtCore.class.getDeclaredMethods()) {
            DUE.same("rule 10, parameters of " + method, method.getParameterCount() > MOST_PARAMETERS ? 1 : 0, 0);
        }
    }

    private static int depth(String name, Map<String, String> bodies, int above) {
        if (above > 2 * MOST_DEPTH) {
            return ENDLESS;
        }
        int deepest = 0;
        for (String called : bodies.keySet()) {
            if (Pattern.compile("\\b" + called + "\\(").matcher(bodies.get(name)).find()) {
                deepest = Math.max(deepest, depth(called, bodies, above + 1));
            }
        }
        return 1 + deepest;
    }

    private static void noCallInsideArguments(String bare, Map<String, String> bodies) {
        Pattern call = Pattern.compile("\\b(" + String.join("|", bodies.keySet()) + ")\\(");
        Matcher found = call.matcher(bare);
        while (found.find()) {
            int open = 1;
            int end = found.end();
            while (open > 0) {
                open += bare.charAt(end) == '(' ? 1 : bare.charAt(end) == ')' ? -1 : 0;
                end++;
            }
            String arguments = bare.substring(found.end(), end - 1);
            DUE.same("rule 10, a call inside " + found.group(1) + "(" + arguments + ")",
                call.matcher(arguments).find() ? 1 : 0, 0);
        }
    }

    private static void fewFields() {
        int fields = 0;
        for (Field field : SmtCore.class.getDeclaredFields()) {
            fields += Modifier.isStatic(field.getModifiers()) ? 0 : 1;
        }
        DUE.same("rule 10, " + fields + " fields", fields > MOST_FIELDS ? 1 : 0, 0);
    }
}
