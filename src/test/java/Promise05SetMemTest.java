public final class Promise05SetMemTest {
    private static final Due DUE = new Due("promise 5");

    public static void main(String[] args) {
        writesThatCellOnly();
        instructionsSeeIt();
        refuses();
        DUE.end();
    }

    private static void writesThatCellOnly() {
        SmtCore x = Asm.four();
        for (int t = 0; t < 4; t++) {
            for (int a = 0; a < 16; a++) {
                DUE.same("setMem(" + t + ", " + a + ")", x.setMem(t, a, value(t, a)), 0);
            }
        }
        for (int t = 0; t < 4; t++) {
            for (int a = 0; a < 16; a++) {
                DUE.same("mem(" + t + ", " + a + ")", x.mem(t, a), value(t, a));
            }
            DUE.same("reg(" + t + ", 0)", x.reg(t, 0), 0);
            DUE.same("digest(" + t + ")", x.digest(t), 0);
        }
    }

    private static int value(int t, int a) {
        return a == 0 ? Asm.LEAST + t : a == 15 ? Asm.GREATEST - t : 100 * t + a;
    }

    private static void instructionsSeeIt() {
        SmtCore x = Asm.single();
        x.emit(0, Asm.LOAD, Asm.regs(5, 0, 0), 15);
        x.setMem(0, 15, -4);
        x.run(1);
        DUE.same("reg(0, 5)", x.reg(0, 5), -4);
        x.run(1);
        DUE.same("setMem in PC_TRAP", x.setMem(0, 0, 8), 0);
        DUE.same("status(0) after setMem", x.status(0), SmtCore.PC_TRAP);
        DUE.same("mem(0, 0)", x.mem(0, 0), 8);
    }

    private static void refuses() {
        SmtCore x = Asm.busyFour();
        String before = Asm.readAll(x);
        for (int t : Asm.NO_THREADS) {
            DUE.same("setMem(" + t + ", 0, 5)", x.setMem(t, 0, 5), SmtCore.BAD_THREAD);
            DUE.same("setMem(" + t + ", 16, 5)", x.setMem(t, 16, 5), SmtCore.BAD_THREAD);
        }
        for (int a : new int[] {-1, 16, 17, 32, -16, Asm.LEAST, Asm.GREATEST}) {
            DUE.same("setMem(1, " + a + ", 5)", x.setMem(1, a, 5), SmtCore.BAD_INDEX);
        }
        DUE.sameThread("refused setMem", Asm.readAll(x), before);
    }
}
