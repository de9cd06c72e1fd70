import java.io.IOException;
import java.lang.reflect.Constructor;
import java.lang.reflect.Field;
import java.lang.reflect.Method;
import java.lang.reflect.Modifier;
import java.nio.file.Files;
import java.nio.file.Path;
import java.util.Set;
import java.util.TreeSet;
import java.util.regex.Matcher;
import java.util.regex.Pattern;

/** The public face is the document's, nothing more, and the source keeps the rules a scan can see. */
public final class FaceTest {
    private static final Due DUE = new Due("face");
    private static final String[] METHODS = {"emit 4", "retarget 3", "setReg 3", "setMem 3", "restart 2", "reset 1",
        "run 1", "runOne 2", "reg 2", "mem 2", "pc 1", "status 1", "retired 1", "digest 1", "size 1"};
    private static final String[] CONSTANTS = {"BAD_THREAD -1", "BAD_OP -2", "BAD_REGS -3", "CODE_FULL -4",
        "BAD_INDEX -5", "RUNNING 0", "HALTED 1", "DIVIDE_TRAP 2", "ADDRESS_TRAP 3", "PC_TRAP 4"};
    private static final String FORBIDDEN = "import|package|float|double|String|Math|Integer|System|Arrays|Object|null"
        + "|throw|throws|try|catch|finally|synchronized|assert|instanceof|enum|record|interface|protected|extends"
        + "|implements|toString|equals|hashCode|->|::|\\[\\]\\s*\\[";

    public static void main(String[] args) throws IOException, IllegalAccessException {
        methodsAreTheDocuments();
        constantsAreTheDocuments();
        classIsOne();
        sourceKeepsTheRules();
        DUE.end();
    }

    private static void methodsAreTheDocuments() {
        Set<String> open = new TreeSet<>();
        Set<String> hidden = new TreeSet<>();
        for (Method method : SmtCore.class.getDeclaredMethods()) {
            DUE.same(method + " takes at most seven", method.getParameterCount() <= 7 ? 1 : 0, 1);
            if (Modifier.isPrivate(method.getModifiers())) {
                hidden.add(method.getName());
                continue;
            }
            open.add(method.getName() + " " + method.getParameterCount());
            DUE.same(method + " is public", Modifier.isPublic(method.getModifiers()) ? 1 : 0, 1);
            DUE.same(method + " is static", Modifier.isStatic(method.getModifiers()) ? 1 : 0, 0);
            DUE.same(method + " answers int", method.getReturnType() == int.class ? 1 : 0, 1);
            for (Class<?> type : method.getParameterTypes()) {
                DUE.same(method + " takes int", type == int.class ? 1 : 0, 1);
            }
        }
        DUE.sameThread("reading the methods", open.toString(), new TreeSet<>(Set.of(METHODS)).toString());
        for (String name : METHODS) {
            String bare = name.substring(0, name.indexOf(' '));
            DUE.same("a private method called " + bare, hidden.contains(bare) ? 1 : 0, 0);
        }
    }

    private static void constantsAreTheDocuments() throws IllegalAccessException {
        Set<String> open = new TreeSet<>();
        for (Field field : SmtCore.class.getDeclaredFields()) {
            int how = field.getModifiers();
            if (Modifier.isStatic(how)) {
                boolean number = field.getType() == int.class || field.getType() == long.class;
                DUE.same(field + " is a constant number", number && Modifier.isFinal(how) ? 1 : 0, 1);
            }
            if (!Modifier.isPrivate(how)) {
                DUE.same(field + " is public static", Modifier.isPublic(how) && Modifier.isStatic(how) ? 1 : 0, 1);
                open.add(field.getName() + " " + field.getInt(null));
            }
        }
        DUE.sameThread("reading the constants", open.toString(), new TreeSet<>(Set.of(CONSTANTS)).toString());
    }

    private static void classIsOne() {
        int how = SmtCore.class.getModifiers();
        DUE.same("SmtCore is public and final", Modifier.isPublic(how) && Modifier.isFinal(how) ? 1 : 0, 1);
        DUE.same("nested classes", SmtCore.class.getDeclaredClasses().length, 0);
        Constructor<?>[] makers = SmtCore.class.getDeclaredConstructors();
        DUE.same("constructors", makers.length, 1);
        DUE.same("the constructor's numbers", makers[0].getParameterCount(), 4);
        DUE.same("the constructor is public", Modifier.isPublic(makers[0].getModifiers()) ? 1 : 0, 1);
    }

    private static void sourceKeepsTheRules() throws IOException {
        String source = Files.readString(Path.of("src/main/java/SmtCore.java"));
        String bare = source.replaceAll("(?s)/\\*.*?\\*/", " ").replaceAll("//[^\n]*", " ");
        Matcher found = Pattern.compile("(?<![A-Za-z_])(" + FORBIDDEN + ")(?![A-Za-z_])").matcher(bare);
        while (found.find()) {
            DUE.same("'" + found.group() + "' in the source", 1, 0);
        }
        Matcher made = Pattern.compile("(?m)^(.*)\\bnew\\b").matcher(bare);
        while (made.find()) {
            boolean field = made.group(1).matches(" {4}private final int\\[\\] \\w+ = ");
            DUE.same("'new' only in a field's initialiser: " + made.group(), field ? 1 : 0, 1);
        }
    }
}
