import java.io.IOException;
import java.lang.reflect.Method;
import java.lang.reflect.Modifier;
import java.nio.file.Files;
import java.nio.file.Path;
import java.util.List;
import java.util.Set;
import java.util.TreeSet;
import java.util.regex.Matcher;
import java.util.regex.Pattern;
import java.util.stream.Collectors;

/** "The public face" of the document, and rule 1 of LANGUAGE.md: the class shows just that and is one class. */
public final class FaceTest {
    private static final Due DUE = new Due("face");
    private static final String HEAD = "public final class SmtCore {";

    public static void main(String[] args) throws IOException {
        Set<String> face = publicLines(javaOf(Files.readString(Path.of("../shared/DOC.md"))));
        DUE.same("the document's face has its class, constants, constructor and methods", face.size(), 27);
        showsJustTheFace(face);
        declaresItAsTheDocument(face);
        isOneClass();
        privateNamesAreOthers();
        isTheOnlyFile();
        DUE.end();
    }

    private static String javaOf(String document) {
        Matcher block = Pattern.compile("(?s)## The public face\\s+```java\n(.*?)```").matcher(document);
        return block.find() ? block.group(1) : "";
    }

    private static Set<String> publicLines(String java) {
        return java.lines().filter(line -> line.contains("public ")).map(line -> line.strip().replaceAll(" ?[;{]$", ""))
            .collect(Collectors.toCollection(TreeSet::new));
    }

    private static void showsJustTheFace(Set<String> face) {
        Set<String> due = new TreeSet<>();
        for (String line : face) {
            due.add(Face.bare(line));
        }
        due.remove(Face.bare(HEAD));
        DUE.sameThread("reading what the class shows", Face.shown().toString(), due.toString());
    }

    /** As text, because the names of parameters don't show from outside. */
    private static void declaresItAsTheDocument(Set<String> face) throws IOException {
        DUE.sameThread("reading the source", publicLines(Source.read().bare()).toString(), face.toString());
    }

    private static void isOneClass() {
        int how = SmtCore.class.getModifiers();
        DUE.same("rule 1, public and final", Modifier.isPublic(how) && Modifier.isFinal(how) ? 1 : 0, 1);
        DUE.same("rule 1, nested classes", SmtCore.class.getDeclaredClasses().length, 0);
        DUE.same("rule 1, a package", SmtCore.class.getPackageName().isEmpty() ? 0 : 1, 0);
        DUE.same("rule 1, another class above it", SmtCore.class.getSuperclass() == Object.class ? 0 : 1, 0);
        DUE.same("rule 1, interfaces", SmtCore.class.getInterfaces().length, 0);
    }

    private static void privateNamesAreOthers() {
        Set<String> open = new TreeSet<>();
        Set<String> hidden = new TreeSet<>();
        for (Method method : SmtCore.class.getDeclaredMethods()) {
            (Modifier.isPrivate(method.getModifiers()) ? hidden : open).add(method.getName());
        }
        hidden.retainAll(open);
        DUE.sameThread("rule 1, private methods with a public one's name", hidden.toString(), "[]");
    }

    private static void isTheOnlyFile() throws IOException {
        try (var files = Files.walk(Path.of("src/main"))) {
            List<String> found = files.filter(Files::isRegularFile).map(Path::toString).toList();
            DUE.sameThread("rule 1, the program's files", found.toString(), "[src/main/java/SmtCore.java]");
        }
    }
}
