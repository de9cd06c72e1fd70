import java.lang.reflect.InvocationTargetException;
import java.lang.reflect.Method;
import java.lang.reflect.Modifier;
import java.util.Arrays;

/** Rule 7 of LANGUAGE.md: no call throws, whatever its arguments and the object's state, not even a free one. */
public final class NoThrowTest {
    private static final Due DUE = new Due("no throw");
    private static final int[] ENDS = {Asm.LEAST, Asm.LEAST + 1, -1 << 16, -1, 0, 1, 3, 4, 7, 8, 15, 16, 23, 24, 40, 41,
        511, 512, Asm.GREATEST - 1, Asm.GREATEST};

    public static void main(String[] args) throws IllegalAccessException {
        makesAnySize();
        for (Method method : SmtCore.class.getDeclaredMethods()) {
            if (Modifier.isPublic(method.getModifiers())) {
                takesAnyNumbers(method, new SmtCore(4, 4, 24, 12));
                takesAnyNumbers(method, new SmtCore(1, 1, 2, 2));
                takesAnyNumbers(method, full());
            }
        }
        for (int op = Asm.HALT; op <= Asm.JUMPR; op++) {
            stepsWithAnyValues(op);
        }
        DUE.end();
    }

    private static void makesAnySize() {
        for (int threads : ENDS) {
            for (int size : ENDS) {
                DUE.same("status(0) of a new object", new SmtCore(threads, size, size, size).status(0), 0);
            }
        }
    }

    /** Four threads with all the code they can have, after a run; thread 3 at the first counter outside. */
    private static SmtCore full() {
        SmtCore x = Asm.four();
        for (int t = 0; t < 4; t++) {
            for (int i = 0; i < 24; i++) {
                x.emit(t, (i + t) % 16, 37 * i % 512, i - 2);
            }
        }
        x.run(40);
        x.restart(3, 24);
        return x;
    }

    /** Runs after each call as well, because a bad state shows only when it is used. */
    private static void takesAnyNumbers(Method method, SmtCore x) throws IllegalAccessException {
        int count = method.getParameterCount();
        Object[] numbers = new Object[count];
        int sets = (int) Math.pow(ENDS.length, count);
        for (int set = 0; set < sets; set++) {
            int rest = set;
            for (int i = 0; i < count; i++) {
                numbers[i] = ENDS[rest % ENDS.length];
                rest /= ENDS.length;
            }
            ends(method, x, numbers);
            x.run(2);
        }
    }

    private static void ends(Method method, SmtCore x, Object[] numbers) throws IllegalAccessException {
        try {
            method.invoke(x, numbers);
            DUE.same("reaching the end", 1, 1);
        } catch (InvocationTargetException thrown) {
            DUE.same(method.getName() + Arrays.toString(numbers) + " threw " + thrown.getCause(), 1, 0);
        }
    }

    /** One instruction with all pairs of ends in R[a] and R[b], each imm, at the first and last place of the code. */
    private static void stepsWithAnyValues(int op) {
        for (int p : new int[] {0, 23}) {
            for (int a : ENDS) {
                for (int b : ENDS) {
                    for (int imm : ENDS) {
                        stepsAsTheModel(op, p, new int[] {a, b, imm});
                    }
                }
            }
        }
    }

    private static void stepsAsTheModel(int op, int p, int[] with) {
        SmtCore x = Asm.single();
        Model due = new Model();
        for (int i = 0; i <= p; i++) {
            x.emit(0, i == p ? op : Asm.HALT, Asm.regs(5, 3, 4), with[2]);
            due.code.add(new Model.Instruction(i == p ? op : Asm.HALT, Asm.regs(5, 3, 4), with[2]));
        }
        x.setReg(0, 3, with[0]);
        x.setReg(0, 4, with[1]);
        x.setMem(0, 15, -15);
        x.restart(0, p);
        due.r[3] = with[0];
        due.r[4] = with[1];
        due.m[15] = -15;
        due.pc = p;
        String call = "a step of operation " + op + " at " + p + " with " + Arrays.toString(with);
        DUE.same(call, x.run(1), due.step() ? 1 : 0);
        DUE.same(call + ", status", x.status(0), due.status);
        DUE.same(call + ", counter", x.pc(0), due.pc);
        DUE.same(call + ", R[5]", x.reg(0, 5), due.r[5]);
        DUE.same(call + ", digest", x.digest(0), due.digest);
    }
}
