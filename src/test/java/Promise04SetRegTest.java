public final class Promise04SetRegTest {
    private static final Due DUE = new Due("promise 4");

    public static void main(String[] args) {
        writesThatRegisterOnly();
        instructionsSeeIt();
        refuses();
        DUE.end();
    }

    private static void writesThatRegisterOnly() {
        SmtCore x = Asm.four();
        int[] values = {Asm.LEAST, -1, 1, Asm.GREATEST, 12345, -98765, 2, 3};
        for (int t = 0; t < 4; t++) {
            for (int r = 0; r < 8; r++) {
                DUE.same("setReg(" + t + ", " + r + ")", x.setReg(t, r, values[r] ^ t), 0);
            }
        }
        for (int t = 0; t < 4; t++) {
            for (int r = 0; r < 8; r++) {
                DUE.same("reg(" + t + ", " + r + ")", x.reg(t, r), values[r] ^ t);
            }
            DUE.same("mem(" + t + ", 0)", x.mem(t, 0), 0);
            DUE.same("digest(" + t + ")", x.digest(t), 0);
            DUE.same("retired(" + t + ")", x.retired(t), 0);
            DUE.same("pc(" + t + ")", x.pc(t), 0);
        }
    }

    private static void instructionsSeeIt() {
        SmtCore x = Asm.single();
        x.emit(0, Asm.ADD, Asm.regs(0, 3, 4), 0);
        x.setReg(0, 3, 30);
        x.setReg(0, 4, 12);
        x.run(1);
        DUE.same("reg(0, 0)", x.reg(0, 0), 42);
        x.run(1);
        DUE.same("setReg in PC_TRAP", x.setReg(0, 0, 8), 0);
        DUE.same("status(0) after setReg", x.status(0), SmtCore.PC_TRAP);
        DUE.same("reg(0, 0)", x.reg(0, 0), 8);
    }

    private static void refuses() {
        SmtCore x = Asm.busyFour();
        String before = Asm.readAll(x);
        for (int t : Asm.NO_THREADS) {
            DUE.same("setReg(" + t + ", 0, 5)", x.setReg(t, 0, 5), SmtCore.BAD_THREAD);
            DUE.same("setReg(" + t + ", 8, 5)", x.setReg(t, 8, 5), SmtCore.BAD_THREAD);
        }
        for (int r : new int[] {-1, 8, 9, 16, -8, Asm.LEAST, Asm.GREATEST}) {
            DUE.same("setReg(1, " + r + ", 5)", x.setReg(1, r, 5), SmtCore.BAD_INDEX);
        }
        DUE.sameThread("refused setReg", Asm.readAll(x), before);
    }
}
