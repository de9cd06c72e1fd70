/** Promises 10 to 16: reg, mem, pc, status, retired, digest and size. */
public final class Promise10To16ReadTest {
    private static final Due DUE = new Due("promises 10 to 16");

    public static void main(String[] args) {
        regAnswers();
        memAnswers();
        pcAnswers();
        statusAnswers();
        retiredAnswers();
        digestAnswers();
        sizeAnswers();
        badThreadsAnswer();
        readingChangesNothing();
        DUE.end();
    }

    private static void regAnswers() {
        SmtCore x = Asm.four();
        for (int i = 0; i < 32; i++) {
            x.setReg(i / 8, i % 8, 100 + i);
        }
        for (int i = 0; i < 32; i++) {
            DUE.same("reg(" + i / 8 + ", " + i % 8 + ")", x.reg(i / 8, i % 8), 100 + i);
        }
        for (int r : new int[] {-1, 8, 9, 16, -8, Asm.LEAST, Asm.GREATEST}) {
            DUE.same("reg(1, " + r + ")", x.reg(1, r), 0);
        }
    }

    private static void memAnswers() {
        SmtCore x = Asm.four();
        for (int i = 0; i < 64; i++) {
            x.setMem(i / 16, i % 16, 100 + i);
        }
        for (int i = 0; i < 64; i++) {
            DUE.same("mem(" + i / 16 + ", " + i % 16 + ")", x.mem(i / 16, i % 16), 100 + i);
        }
        for (int a : new int[] {-1, 16, 17, 32, -16, Asm.LEAST, Asm.GREATEST}) {
            DUE.same("mem(1, " + a + ")", x.mem(1, a), 0);
        }
    }

    private static void pcAnswers() {
        SmtCore x = Asm.four();
        for (int t = 0; t < 4; t++) {
            x.restart(t, 1000 - t);
        }
        x.restart(3, Asm.LEAST);
        DUE.same("pc(0)", x.pc(0), 1000);
        DUE.same("pc(1)", x.pc(1), 999);
        DUE.same("pc(2)", x.pc(2), 998);
        DUE.same("pc(3)", x.pc(3), Asm.LEAST);
    }

    private static void statusAnswers() {
        SmtCore x = Asm.four();
        x.emit(0, Asm.HALT, 0, 0);
        x.emit(1, Asm.DIV, 0, 0);
        x.emit(2, Asm.LOAD, 0, -1);
        for (int t = 0; t < 4; t++) {
            DUE.same("status(" + t + ")", x.status(t), SmtCore.RUNNING);
        }
        x.run(1);
        DUE.same("status(0)", x.status(0), SmtCore.HALTED);
        DUE.same("status(1)", x.status(1), SmtCore.DIVIDE_TRAP);
        DUE.same("status(2)", x.status(2), SmtCore.ADDRESS_TRAP);
        DUE.same("status(3)", x.status(3), SmtCore.PC_TRAP);
    }

    private static void retiredAnswers() {
        SmtCore x = Asm.busyFour();
        x.runOne(2, 40);
        x.runOne(2, 40);
        x.runOne(3, 1);
        x.restart(3, 99);
        x.runOne(3, 9);
        DUE.same("retired(0)", x.retired(0), 6);
        DUE.same("retired(2)", x.retired(2), 86);
        DUE.same("retired(3)", x.retired(3), 7);
        x.reset(2);
        DUE.same("retired(2) after reset", x.retired(2), 0);
        x.emit(2, Asm.SET, 0, 0);
        x.runOne(2, 5);
        DUE.same("retired(2) after reset and a run", x.retired(2), 1);
    }

    private static void digestAnswers() {
        SmtCore x = Asm.four();
        x.emit(1, Asm.SET, 1, 5);
        x.emit(1, Asm.SET, 2, -9);
        x.emit(1, Asm.HALT, 0, 0);
        x.runOne(1, 1);
        DUE.same("digest(1)", x.digest(1), 5);
        x.runOne(1, 1);
        DUE.same("digest(1)", x.digest(1), 5 * 31 + 7 - 9);
        x.runOne(1, 1);
        DUE.same("digest(1) after HALT", x.digest(1), 5 * 31 + 7 - 9);
        x.restart(1, 0);
        DUE.same("digest(1) after restart", x.digest(1), 5 * 31 + 7 - 9);
        DUE.same("digest(0)", x.digest(0), 0);
        x.reset(1);
        DUE.same("digest(1) after reset", x.digest(1), 0);
    }

    private static void sizeAnswers() {
        SmtCore x = Asm.four();
        for (int i = 1; i <= 24; i++) {
            x.emit(3, Asm.SET, 0, 0);
            DUE.same("size(3)", x.size(3), i);
        }
        x.emit(3, Asm.SET, 0, 0);
        DUE.same("size(3) after CODE_FULL", x.size(3), 24);
        DUE.same("size(2)", x.size(2), 0);
        x.reset(3);
        DUE.same("size(3) after reset", x.size(3), 0);
    }

    private static void badThreadsAnswer() {
        SmtCore x = Asm.busyFour();
        for (int t : Asm.NO_THREADS) {
            readsAsBad(x, t);
        }
        for (int threads = 1; threads <= 3; threads++) {
            SmtCore fewer = new SmtCore(threads, 2, 8, 8);
            for (int t = threads; t < 5; t++) {
                readsAsBad(fewer, t);
            }
        }
    }

    private static void readsAsBad(SmtCore x, int t) {
        for (int i = -1; i <= 16; i++) {
            DUE.same("reg(" + t + ", " + i + ")", x.reg(t, i), 0);
            DUE.same("mem(" + t + ", " + i + ")", x.mem(t, i), 0);
        }
        DUE.same("pc(" + t + ")", x.pc(t), 0);
        DUE.same("status(" + t + ")", x.status(t), SmtCore.BAD_THREAD);
        DUE.same("retired(" + t + ")", x.retired(t), 0);
        DUE.same("digest(" + t + ")", x.digest(t), 0);
        DUE.same("size(" + t + ")", x.size(t), 0);
    }

    private static void readingChangesNothing() {
        SmtCore read = Asm.busyFour();
        SmtCore unread = Asm.busyFour();
        String once = Asm.readAll(read);
        readsAsBad(read, -1);
        read.reg(0, 8);
        read.mem(0, 16);
        DUE.sameThread("reading", Asm.readAll(read), once);
        read.run(5);
        unread.run(5);
        DUE.sameThread("reading, then run(5)", Asm.readAll(read), Asm.readAll(unread));
    }
}
