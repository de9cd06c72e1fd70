import java.lang.reflect.Constructor;
import java.lang.reflect.Executable;
import java.lang.reflect.Field;
import java.lang.reflect.Method;
import java.lang.reflect.Modifier;
import java.util.Arrays;
import java.util.Set;
import java.util.TreeSet;
import java.util.stream.Collectors;

/** What the class shows to the outside, in the words of the document but without the names of the parameters. */
final class Face {
    private Face() {
    }

    /** Everything that isn't private, constants with their values. */
    static Set<String> shown() {
        Set<String> all = new TreeSet<>();
        for (Constructor<?> maker : SmtCore.class.getDeclaredConstructors()) {
            add(all, maker.getModifiers(), "SmtCore" + types(maker));
        }
        for (Method method : SmtCore.class.getDeclaredMethods()) {
            add(all, method.getModifiers(), method.getReturnType() + " " + method.getName() + types(method));
        }
        for (Field field : SmtCore.class.getDeclaredFields()) {
            add(all, field.getModifiers(), field.getType() + " " + field.getName() + value(field));
        }
        return all;
    }

    private static void add(Set<String> all, int modifiers, String text) {
        if (!Modifier.isPrivate(modifiers)) {
            all.add((Modifier.toString(modifiers) + " " + text).strip());
        }
    }

    private static String types(Executable called) {
        return Arrays.stream(called.getParameterTypes()).map(Class::getName)
            .collect(Collectors.joining(", ", "(", ")"));
    }

    private static String value(Field field) {
        try {
            int how = field.getModifiers();
            return Modifier.isStatic(how) && !Modifier.isPrivate(how) ? " = " + field.get(null) : "";
        } catch (IllegalAccessException closed) {
            throw new IllegalStateException(closed);
        }
    }

    /** A declaration as the document writes it, without its parameters' names and its end. */
    static String bare(String declaration) {
        return declaration.strip().replaceAll("(\\w+) \\w+(?=[,)])", "$1").replaceAll("\\s*[;{]$", "");
    }
}
