public final class Promise01NewObjectTest {
    private static final Due DUE = new Due("promise 1");
    private static final String FRESH = "size 0 pc 0 status 0 retired 0 digest 0"
        + " R 0 0 0 0 0 0 0 0 M 0 0 0 0 0 0 0 0 0 0 0 0 0 0 0 0";

    public static void main(String[] args) {
        startsEmpty();
        clampsThreads();
        takesAnySize();
        sizeChangesNoAnswer();
        objectsAreApart();
        DUE.end();
    }

    private static void startsEmpty() {
        SmtCore x = Asm.four();
        for (int t = 0; t < 4; t++) {
            DUE.sameThread("new SmtCore(4, ..), thread " + t, Asm.read(x, t), FRESH);
        }
    }

    private static void clampsThreads() {
        threadsBecome(1, 1);
        threadsBecome(2, 2);
        threadsBecome(3, 3);
        threadsBecome(4, 4);
        threadsBecome(0, 1);
        threadsBecome(-1, 1);
        threadsBecome(Asm.LEAST, 1);
        threadsBecome(5, 4);
        threadsBecome(Asm.GREATEST, 4);
    }

    private static void threadsBecome(int asked, int given) {
        SmtCore x = new SmtCore(asked, 2, 8, 8);
        for (int t = -1; t <= 5; t++) {
            boolean good = t >= 0 && t < given;
            String of = "of SmtCore(" + asked + ", ..): ";
            DUE.same(of + "status(" + t + ")", x.status(t), good ? SmtCore.RUNNING : SmtCore.BAD_THREAD);
            DUE.same(of + "emit(" + t + ", ..)", x.emit(t, Asm.SET, 1, 9), good ? 0 : SmtCore.BAD_THREAD);
        }
        DUE.same("run(1) of SmtCore(" + asked + ", ..)", x.run(1), given);
    }

    private static void takesAnySize() {
        int[] sizes = {Asm.LEAST, -1, 0, 1, 2, 4, 5, 12, 13, 24, 25, Asm.GREATEST};
        for (int size : sizes) {
            sameAsUsual(new SmtCore(2, size, 8, 8), "width " + size);
            sameAsUsual(new SmtCore(2, 2, size, 8), "spare " + size);
            sameAsUsual(new SmtCore(2, 2, 8, size), "window " + size);
            sameAsUsual(new SmtCore(2, size, size, size), "width, spare and window " + size);
        }
    }

    private static void sizeChangesNoAnswer() {
        for (int width = 1; width <= 4; width++) {
            for (int spare = 2; spare <= 24; spare++) {
                for (int window = 2; window <= 12; window++) {
                    sameAsUsual(new SmtCore(2, width, spare, window), width + ", " + spare + ", " + window);
                }
            }
        }
    }

    private static void sameAsUsual(SmtCore x, String size) {
        SmtCore usual = new SmtCore(2, 2, 8, 8);
        DUE.same("the runs with size " + size, work(x), work(usual));
        DUE.sameThread("the runs with size " + size, Asm.readAll(x), Asm.readAll(usual));
    }

    private static int work(SmtCore x) {
        for (int t = 0; t < 2; t++) {
            x.emit(t, Asm.SET, 1, 5 + t);
            x.emit(t, Asm.ADD, Asm.regs(2, 2, 1), 0);
            x.emit(t, Asm.STORE, Asm.regs(0, 1, 2), 3);
            x.emit(t, Asm.LOAD, Asm.regs(3, 1, 0), 3);
            x.emit(t, Asm.MUL, Asm.regs(4, 3, 2), 0);
            x.emit(t, Asm.ADDI, Asm.regs(1, 1, 0), -1);
            x.emit(t, Asm.BLT, Asm.regs(0, 0, 1), 1);
            x.emit(t, Asm.DIV, Asm.regs(5, 4, 1), 0);
        }
        return x.run(7) + 1000 * x.run(40) + 1000000 * x.run(40);
    }

    private static void objectsAreApart() {
        SmtCore one = Asm.four();
        SmtCore other = Asm.busyFour();
        DUE.same("size(3) of the busy object", other.size(3), 4);
        DUE.sameThread("work on another object", Asm.read(one, 3), FRESH);
    }
}
