public final class Promise07ResetTest {
    private static final Due DUE = new Due("promise 7");

    public static void main(String[] args) {
        putsBack();
        leavesOthers();
        codeIsGone();
        refuses();
        DUE.end();
    }

    private static SmtCore filled() {
        SmtCore x = Asm.busyFour();
        for (int t = 0; t < 4; t++) {
            for (int r = 0; r < 8; r++) {
                x.setReg(t, r, 50 + r);
            }
            for (int a = 0; a < 16; a++) {
                x.setMem(t, a, 70 + a);
            }
            x.emit(t, Asm.HALT, 0, 0);
            x.restart(t, 4);
        }
        x.run(1);
        return x;
    }

    private static void putsBack() {
        String fresh = Asm.read(Asm.four(), 0);
        for (int t = 0; t < 4; t++) {
            SmtCore x = filled();
            DUE.same("status(" + t + ") before", x.status(t), SmtCore.HALTED);
            DUE.same("reset(" + t + ")", x.reset(t), 0);
            DUE.sameThread("reset(" + t + ")", Asm.read(x, t), fresh);
            DUE.same("reset(" + t + ") again", x.reset(t), 0);
            DUE.sameThread("reset(" + t + ") again", Asm.read(x, t), fresh);
        }
    }

    private static void leavesOthers() {
        SmtCore x = filled();
        String[] before = new String[4];
        for (int t = 0; t < 4; t++) {
            before[t] = Asm.read(x, t);
        }
        x.reset(1);
        for (int t = 0; t < 4; t++) {
            if (t != 1) {
                DUE.sameThread("reset(1), thread " + t, Asm.read(x, t), before[t]);
            }
        }
    }

    private static void codeIsGone() {
        SmtCore x = filled();
        x.reset(2);
        DUE.same("runOne(2, 5) without code", x.runOne(2, 5), 0);
        DUE.same("status(2)", x.status(2), SmtCore.PC_TRAP);
        x.reset(2);
        DUE.same("emit after reset", x.emit(2, Asm.ADDI, Asm.regs(1, 1, 0), 3), 0);
        DUE.same("runOne(2, 5)", x.runOne(2, 5), 1);
        DUE.same("reg(2, 1)", x.reg(2, 1), 3);
        DUE.same("digest(2)", x.digest(2), 3);
        x.reset(2);
        for (int i = 0; i < 24; i++) {
            DUE.same("emit number " + i + " after reset", x.emit(2, Asm.SET, 0, i), i);
        }
        DUE.same("emit with 24 there", x.emit(2, Asm.SET, 0, 24), SmtCore.CODE_FULL);
    }

    private static void refuses() {
        SmtCore x = filled();
        String before = Asm.readAll(x);
        for (int t : Asm.NO_THREADS) {
            DUE.same("reset(" + t + ")", x.reset(t), SmtCore.BAD_THREAD);
        }
        DUE.sameThread("refused reset", Asm.readAll(x), before);
    }
}
