import java.lang.reflect.Field;

/** Looks behind the face, only for what the document says and no run of 512 calls can show. */
final class Inside {
    private Inside() {
    }

    static int number(SmtCore core, String name) {
        return (Integer) read(core, name);
    }

    static int[] array(SmtCore core, String name) {
        return (int[]) read(core, name);
    }

    private static Object read(SmtCore core, String name) {
        try {
            Field field = SmtCore.class.getDeclaredField(name);
            field.setAccessible(true);
            return field.get(core);
        } catch (ReflectiveOperationException missing) {
            throw new IllegalStateException("the tests look for a field " + name, missing);
        }
    }
}
